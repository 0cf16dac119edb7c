/-! ===== sums of doubles ===== -/
def exN (n : Nat) : Nat := max 1 (n % 2 ^ 63 / FP.Core.b64.tails)
def frN (n : Nat) : Nat := if n % 2 ^ 63 / FP.Core.b64.tails = 0 then n % FP.Core.b64.tails else FP.Core.b64.tails + n % FP.Core.b64.tails
def sgN (n : Nat) : Bool := decide (2 ^ 63 ≤ n)
theorem frN_lt (n : Nat) : frN n < 2 * FP.Core.b64.tails := by
  unfold frN
  have := Nat.mod_lt n (FP.Core.tails_pos FP.Core.b64)
  split <;> omega
theorem inf63 : FP.Core.infBits FP.Core.b64 = 2047 * FP.Core.b64.tails := by decide
theorem dec_fin {n : Nat} (hn : n < 2 ^ 64) (hf : n % 2 ^ 63 < 2047 * FP.Core.b64.tails) : FP.Core.decode FP.Core.b64 n = .fin (sgN n) (frN n) ((exN n : Int) - 1075) := by
  unfold FP.Core.decode
  rw [FP.Core.fieldE_mag, FP.Core.fieldT_mag, FP.Core.fieldS_mag FP.Core.b64 (by rw [FP.Core.half_b64]; exact hn), ex64, FP.Core.qmin_b64]
  have hm : FP.Core.mag FP.Core.b64 n = n % 2 ^ 63 := by unfold FP.Core.mag; rw [FP.Core.half_b64]
  have hmod : n % 2 ^ 63 % FP.Core.b64.tails = n % FP.Core.b64.tails := by rw [tl64]; omega
  rw [hm, hmod, FP.Core.half_b64]
  have hd : n % 2 ^ 63 / FP.Core.b64.tails < 2047 := (Nat.div_lt_iff_lt_mul (FP.Core.tails_pos FP.Core.b64)).mpr hf
  rw [if_neg (by omega)]
  unfold sgN frN exN
  generalize n % 2 ^ 63 / FP.Core.b64.tails = E at hd
  by_cases c : E = 0
  · rw [if_pos c, if_pos c, c]; rfl
  · rw [if_neg c, if_neg c, Nat.max_eq_right (by omega)]
    congr 1; omega
theorem dec_inf {n : Nat} (hn : n < 2 ^ 64) (hf : n % 2 ^ 63 = 2047 * FP.Core.b64.tails) : FP.Core.decode FP.Core.b64 n = .inf (sgN n) := by
  rw [FP.Core.decode_inf (by unfold FP.Core.mag; rw [FP.Core.half_b64, inf63]; exact hf), FP.Core.fieldS_mag FP.Core.b64 (by rw [FP.Core.half_b64]; exact hn), FP.Core.half_b64]
  rfl
theorem exponent_ok {n : Nat} (hn : n < 2 ^ 64) : F_X3_exponent (lN n) = some (nI (exN n)) := by
  unfold F_X3_exponent f_X3_exponent F_J9_max_7cf53 f_J9_max_7cf53 exN
  rw [show (9223372036854775807 : Int64) = lN (2 ^ 63 - 1) from rfl, g_mask (s := 63) rfl (by omega) hn, show (52 : Int32) = nI 52 from rfl, lus (by omega) 52 (by omega), lN_i, FP.Core.tails_b64, show (1 : Int32) = nI 1 from rfl]
  have : n % 2 ^ 63 / 2 ^ 52 < 2048 := by omega
  generalize n % 2 ^ 63 / 2 ^ 52 = E at this
  by_cases c : 1 < E
  · rw [if_pos ((nI_ltI (by omega) (by omega)).mpr c), bind_e, Nat.max_eq_right (by omega)]
  · rw [if_neg (fun z => c ((nI_ltI (by omega) (by omega)).mp z)), bind_e, Nat.max_eq_left (by omega)]
theorem and_ex (n : Nat) : n &&& (2047 * 2 ^ 52) = (n / 2 ^ 52 % 2 ^ 11) * 2 ^ 52 := by
  apply Nat.eq_of_testBit_eq
  intro i
  rw [Nat.testBit_and, Nat.testBit_mul_two_pow, Nat.testBit_mul_two_pow, Nat.testBit_mod_two_pow, Nat.testBit_div_two_pow]
  rw [show (2047 : Nat) = 2 ^ 11 - 1 from rfl, Nat.testBit_two_pow_sub_one]
  by_cases c : 52 ≤ i
  · have : i - 52 + 52 = i := by omega
    rw [this]
    simp [c, Bool.and_comm]
  · simp [c]
theorem fraction_ok {n : Nat} (hn : n < 2 ^ 64) : F_X3_fraction (lN n) = some (lN (frN n)) := by
  unfold F_X3_fraction f_X3_fraction frN
  have hT : FP.Core.b64.tails = 2 ^ 52 := FP.Core.tails_b64
  simp only [bd_e]
  rw [show (4503599627370495 : Int64) = lN (2 ^ 52 - 1) from rfl, g_mask (s := 52) rfl (by omega) hn, show (9218868437227405312 : Int64) = lN (2047 * 2 ^ 52) from rfl, g_and hn (by decide) (and_ex n), hT]
  have e : n / 2 ^ 52 % 2 ^ 11 = n % 2 ^ 63 / 2 ^ 52 := by omega
  rw [e]
  have hE : n % 2 ^ 63 / 2 ^ 52 < 2048 := by omega
  by_cases c : n % 2 ^ 63 / 2 ^ 52 = 0
  · rw [if_pos ((lg0 _).mpr ((lN_zero (by omega)).mpr (by omega))), if_pos c]
  · rw [if_neg (fun z => c (by have := (lN_zero (by omega)).mp ((lg0 _).mp z); omega)), if_neg c, show (4503599627370496 : Int64) = lN (1 * 2 ^ 52) from rfl, g_or' (k := 52) rfl (by omega) (by omega), Nat.one_mul, Nat.add_comm]
theorem and_top (n : Nat) : n &&& 2 ^ 63 = (n.testBit 63).toNat * 2 ^ 63 := by
  apply Nat.eq_of_testBit_eq
  intro i
  rw [Nat.testBit_and, Nat.testBit_two_pow]
  by_cases c : 63 = i
  · subst c
    cases h : n.testBit 63
    · simp
    · rw [Bool.toNat_true, Nat.one_mul, Nat.testBit_two_pow]; rfl
  · cases h : n.testBit 63
    · simp [c]
    · rw [Bool.toNat_true, Nat.one_mul, Nat.testBit_two_pow, decide_eq_false c, Bool.and_false]
theorem sign_ok {n : Nat} (hn : n < 2 ^ 64) : lN n &&& (-9223372036854775808 : Int64) = sgW (sgN n) := by
  unfold sgW sgN
  rw [show (-9223372036854775808 : Int64) = lN (2 ^ 63) from rfl, g_and hn (by decide) (and_top n), tl63]
  congr 2
  have : n.testBit 63 = decide (2 ^ 63 ≤ n) := by
    rw [Nat.testBit_eq_decide_div_mod_eq]
    apply decide_eq_decide.mpr
    omega
  rw [this]
theorem xor_sg {a b : Nat} (ha : a < 2 ^ 64) (hb : b < 2 ^ 64) : lg_cmp (lN a ^^^ lN b) (0 : Int64) < 0 ↔ sgN a ≠ sgN b := by
  rw [lg_cmp_lt, fa_lt64]
  have h1 := BitVec.msb_eq_toInt (x := (lN a ^^^ lN b).toBitVec)
  have h2 := BitVec.msb_eq_toInt (x := (lN a).toBitVec)
  have h3 := BitVec.msb_eq_toInt (x := (lN b).toBitVec)
  have ea : (lN a).toBitVec.toInt = (lN a).toInt := rfl
  have eb : (lN b).toBitVec.toInt = (lN b).toInt := rfl
  have ec : (lN a ^^^ lN b).toBitVec.toInt = (lN a ^^^ lN b).toInt := rfl
  rw [ea, lN_ti ha] at h2
  rw [eb, lN_ti hb] at h3
  rw [ec, Int64.toBitVec_xor, BitVec.msb_xor, h2, h3] at h1
  have z0 : (0 : Int64).toInt = 0 := rfl
  rw [z0]
  have h4 : ((lN a ^^^ lN b).toInt < 0) ↔ (decide ((lN a ^^^ lN b).toInt < 0) = true) := by simp
  rw [h4, ← h1]
  unfold sgN
  by_cases c1 : a < 2 ^ 63
  · rw [if_pos c1, decide_eq_false (show ¬ ((a : Int) < 0) by omega), decide_eq_false (show ¬ 2 ^ 63 ≤ a by omega)]
    by_cases c2 : b < 2 ^ 63
    · rw [if_pos c2, decide_eq_false (show ¬ ((b : Int) < 0) by omega), decide_eq_false (show ¬ 2 ^ 63 ≤ b by omega)]; simp
    · rw [if_neg c2, decide_eq_true (show ((b : Int) - 2 ^ 64 < 0) by omega), decide_eq_true (show 2 ^ 63 ≤ b by omega)]; simp
  · rw [if_neg c1, decide_eq_true (show ((a : Int) - 2 ^ 64 < 0) by omega), decide_eq_true (show 2 ^ 63 ≤ a by omega)]
    by_cases c2 : b < 2 ^ 63
    · rw [if_pos c2, decide_eq_false (show ¬ ((b : Int) < 0) by omega), decide_eq_false (show ¬ 2 ^ 63 ≤ b by omega)]; simp
    · rw [if_neg c2, decide_eq_true (show ((b : Int) - 2 ^ 64 < 0) by omega), decide_eq_true (show 2 ^ 63 ≤ b by omega)]; simp
/-- sums and differences of what is shifted down -/
theorem stk_add {X Y k : Nat} (hX : X % 2 = 0) : stk (X * 2 ^ k + Y) k = X + stk Y k := by
  unfold stk
  have hp := Nat.two_pow_pos k
  rw [Nat.mul_comm X, Nat.mul_add_mod]
  by_cases c : Y % 2 ^ k = 0
  · rw [if_pos c, if_pos c, Nat.mul_add_div hp]
  · rw [if_neg c, if_neg c]
    obtain ⟨x, rfl⟩ : ∃ x, X = 2 * x := ⟨X / 2, by omega⟩
    rw [show 2 ^ k * (2 * x) = 2 ^ (k + 1) * x by rw [Nat.pow_succ, Nat.mul_assoc], Nat.mul_add_div (Nat.two_pow_pos _)]
    omega
theorem stk_sub {X Y k : Nat} (hX : X % 2 = 0) (hle : Y ≤ X * 2 ^ k) : stk (X * 2 ^ k - Y) k + stk Y k = X := by
  unfold stk
  have hp := Nat.two_pow_pos k
  by_cases c : Y % 2 ^ k = 0
  · obtain ⟨y, rfl⟩ := Nat.dvd_of_mod_eq_zero c
    have hy : y ≤ X := by rw [Nat.mul_comm X] at hle; exact Nat.le_of_mul_le_mul_left hle hp
    rw [Nat.mul_comm X, ← Nat.mul_sub, if_pos (Nat.mul_mod_right _ _), if_pos (Nat.mul_mod_right _ _), Nat.mul_div_cancel_left _ hp, Nat.mul_div_cancel_left _ hp]
    omega
  · obtain ⟨x, rfl⟩ : ∃ x, X = 2 * x := ⟨X / 2, by omega⟩
    rw [show 2 * x * 2 ^ k = 2 ^ (k + 1) * x by rw [Nat.pow_succ, Nat.mul_comm 2 x, Nat.mul_assoc, Nat.mul_comm x, Nat.mul_comm 2]] at hle ⊢
    have hW := Nat.two_pow_pos (k + 1)
    have hdm := Nat.div_add_mod Y (2 ^ (k + 1))
    have hml := Nat.mod_lt Y hW
    have c1 : Y % 2 ^ (k + 1) ≠ 0 := fun z => c (Nat.mod_eq_zero_of_dvd (Nat.dvd_trans (Nat.pow_dvd_pow 2 (Nat.le_succ k)) (Nat.dvd_of_mod_eq_zero z)))
    have hu : Y / 2 ^ (k + 1) < x := by
      rcases Nat.lt_or_ge (Y / 2 ^ (k + 1)) x with h | h
      · exact h
      · have := Nat.mul_le_mul_left (2 ^ (k + 1)) h
        omega
    have e : 2 ^ (k + 1) * x - Y = 2 ^ (k + 1) * (x - Y / 2 ^ (k + 1) - 1) + (2 ^ (k + 1) - Y % 2 ^ (k + 1)) := by
      rw [Nat.mul_sub, Nat.mul_sub]
      have := Nat.mul_le_mul_left (2 ^ (k + 1)) (show Y / 2 ^ (k + 1) + 1 ≤ x by omega)
      rw [Nat.mul_add] at this
      omega
    have c2 : ¬ (2 ^ (k + 1) * x - Y) % 2 ^ k = 0 := fun z => by
      have h1 := Nat.dvd_of_mod_eq_zero z
      have h2 : 2 ^ k ∣ 2 ^ (k + 1) * x := Nat.dvd_mul_right_of_dvd (Nat.pow_dvd_pow 2 (Nat.le_succ k)) x
      have h3 := Nat.dvd_sub h2 h1
      rw [show 2 ^ (k + 1) * x - (2 ^ (k + 1) * x - Y) = Y by omega] at h3
      exact c (Nat.mod_eq_zero_of_dvd h3)
    rw [if_neg c2, if_neg c, e, Nat.mul_add_div hW, Nat.div_eq_of_lt (show 2 ^ (k + 1) - Y % 2 ^ (k + 1) < 2 ^ (k + 1) by omega)]
    omega
theorem sum_same {s : Bool} {c d k : Nat} {r : Int} : FP.Core.exactSum (.fin s c (r + k)) (.fin s d r) = .fin s (c * 2 ^ k + d) r := by
  unfold FP.Core.exactSum FP.Core.sumUnits FP.Core.inUnits
  dsimp only
  rw [show min (r + (k : Int)) r = r by omega, show (r + k - r).toNat = k by omega, show (r - r).toNat = 0 by omega, Nat.pow_zero, Nat.mul_one]
  have e : FP.Core.signed s (c * 2 ^ k) + FP.Core.signed s d = FP.Core.signed s (c * 2 ^ k + d) := by
    unfold FP.Core.signed; cases s <;> simp <;> omega
  rw [e, FP.Core.natAbs_signed]
  congr 1
  unfold FP.Core.sumSign
  by_cases h : c * 2 ^ k + d = 0
  · rw [h, FP.Core.signed_zero, if_pos rfl, Bool.and_self]
  · rw [if_neg (fun z => h ((FP.Core.signed_eq_zero s _).mp z)), FP.Core.signed_lt_zero s (by omega)]
theorem sum_opp {s : Bool} {c d k : Nat} {r : Int} (h : d ≤ c * 2 ^ k) : FP.Core.exactSum (.fin s c (r + k)) (.fin (!s) d r) = if c * 2 ^ k = d then .fin false 0 r else .fin s (c * 2 ^ k - d) r := by
  unfold FP.Core.exactSum FP.Core.sumUnits FP.Core.inUnits
  dsimp only
  rw [show min (r + (k : Int)) r = r by omega, show (r + k - r).toNat = k by omega, show (r - r).toNat = 0 by omega, Nat.pow_zero, Nat.mul_one]
  have e : FP.Core.signed s (c * 2 ^ k) + FP.Core.signed (!s) d = FP.Core.signed s (c * 2 ^ k - d) := by
    generalize c * 2 ^ k = Q at h
    unfold FP.Core.signed; cases s <;> simp <;> omega
  rw [e, FP.Core.natAbs_signed]
  unfold FP.Core.sumSign
  by_cases h0 : c * 2 ^ k = d
  · rw [if_pos h0, h0, Nat.sub_self, FP.Core.signed_zero, if_pos rfl]
    cases s <;> rfl
  · rw [if_neg h0, if_neg (fun z => h0 (by have := (FP.Core.signed_eq_zero s _).mp z; omega)), FP.Core.signed_lt_zero s (by omega)]
/-- two finite ones, the greater first -/
theorem exN_mono {g l : Nat} (h : l % 2 ^ 63 ≤ g % 2 ^ 63) : exN l ≤ exN g := by
  unfold exN
  have := Nat.div_le_div_right (c := FP.Core.b64.tails) h
  omega
theorem exN_lt {n : Nat} (h : n % 2 ^ 63 < 2047 * FP.Core.b64.tails) : exN n < 2047 := by
  unfold exN
  have := (Nat.div_lt_iff_lt_mul (FP.Core.tails_pos FP.Core.b64)).mpr h
  omega
/-- the magnitudes are ordered as the words are -/
theorem fr_mono {g l : Nat} (h : l % 2 ^ 63 ≤ g % 2 ^ 63) : frN l ≤ frN g * 2 ^ (exN g - exN l) := by
  have hT := FP.Core.tails_pos FP.Core.b64
  have hl := frN_lt l
  have hm : ∀ n, n % FP.Core.b64.tails = n % 2 ^ 63 % FP.Core.b64.tails := fun n => by rw [tl64]; omega
  by_cases c : exN g = exN l
  · rw [c, Nat.sub_self, Nat.pow_zero, Nat.mul_one]
    unfold exN at c
    unfold frN
    rw [hm l, hm g]
    have dl := Nat.div_add_mod (l % 2 ^ 63) FP.Core.b64.tails
    have dg := Nat.div_add_mod (g % 2 ^ 63) FP.Core.b64.tails
    have ml := Nat.mod_lt (l % 2 ^ 63) hT
    have mg := Nat.mod_lt (g % 2 ^ 63) hT
    have hd := Nat.div_le_div_right (c := FP.Core.b64.tails) h
    generalize l % 2 ^ 63 = L at *
    generalize g % 2 ^ 63 = G at *
    generalize L / FP.Core.b64.tails = el at *
    generalize G / FP.Core.b64.tails = eg at *
    by_cases c0 : eg = 0
    · have : el = 0 := by omega
      subst c0; subst this
      rw [if_pos rfl, if_pos rfl]
      omega
    · rw [if_neg c0]
      by_cases c1 : el = 0
      · rw [if_pos c1]; omega
      · rw [if_neg c1]
        have : eg = el := by omega
        subst this
        omega
  · have h1 := exN_mono h
    have h2 : FP.Core.b64.tails ≤ frN g := by
      unfold frN
      have : ¬ g % 2 ^ 63 / FP.Core.b64.tails = 0 := fun z => by
        unfold exN at c h1
        rw [z] at c h1
        omega
      rw [if_neg this]; omega
    have h3 : 2 ^ 1 ≤ 2 ^ (exN g - exN l) := Nat.pow_le_pow_right (by decide) (by omega)
    have h4 : FP.Core.b64.tails * 2 ≤ frN g * 2 ^ (exN g - exN l) := Nat.mul_le_mul h2 h3
    omega
theorem bigA {c d k : Nat} (hd : d < 2 * FP.Core.b64.tails) (hk : 9 ≤ k) (hc : FP.Core.b64.tails ≤ c) : d * 256 ≤ c * 256 * 2 ^ k ∧ 2 ^ (k + 55) ≤ c * 256 * 2 ^ k - d * 256 := by
  have h1 : 2 ^ 9 ≤ 2 ^ k := Nat.pow_le_pow_right (by decide) hk
  have hT : FP.Core.b64.tails = 2 ^ 52 := FP.Core.tails_b64
  have h2 : FP.Core.b64.tails * 256 * 2 ^ k ≤ c * 256 * 2 ^ k := Nat.mul_le_mul_right _ (Nat.mul_le_mul_right _ hc)
  rw [hT] at h2 hd
  rw [Nat.pow_add]
  generalize 2 ^ k = P at h1 h2 ⊢
  obtain ⟨Q, hQ⟩ : ∃ Q, Q = c * 256 * P := ⟨_, rfl⟩
  rw [← hQ] at h2 ⊢
  clear hQ
  omega
theorem cond_k {c d k : Nat} {A : Nat} (hA : A = c * 256 * 2 ^ k + d * 256 ∨ A = c * 256 * 2 ^ k - d * 256) (hd : d < 2 * FP.Core.b64.tails) (hc : 9 ≤ k → FP.Core.b64.tails ≤ c) : A % 2 ^ k = 0 ∨ 2 ^ (k + 55) ≤ A := by
  by_cases hk : 9 ≤ k
  · right
    obtain ⟨h1, h2⟩ := bigA hd hk (hc hk)
    rcases hA with rfl | rfl <;> omega
  · left
    have h8 : d * 256 = 2 ^ k * (d * 2 ^ (8 - k)) := by
      rw [Nat.mul_left_comm, ← Nat.pow_add, show k + (8 - k) = 8 by omega]
    apply Nat.mod_eq_zero_of_dvd
    have h9 : 2 ^ k ∣ d * 256 := ⟨_, h8⟩
    have h10 : 2 ^ k ∣ c * 256 * 2 ^ k := ⟨c * 256, Nat.mul_comm _ _⟩
    rcases hA with rfl | rfl
    · exact Nat.dvd_add h10 h9
    · exact Nat.dvd_sub h10 h9
theorem scale8 {s : Bool} {A : Nat} {r : Int} : FP.Core.roundRatio FP.Core.b64 s (A * 256) 1 (r - 8) = FP.Core.roundRatio FP.Core.b64 s A 1 r := by
  refine FP.Core.roundRatio_congr (by decide) (by decide) ?_
  rw [show (r - 8 - r).toNat = 0 by omega, show (r - (r - 8)).toNat = 8 by omega, Nat.pow_zero, Nat.mul_one, Nat.mul_one, Nat.mul_one]
theorem plus80 {g l : Nat} (hg : g < 2 ^ 64) (hl : l < 2 ^ 64) (hfg : g % 2 ^ 63 < 2047 * FP.Core.b64.tails) (hle : l % 2 ^ 63 ≤ g % 2 ^ 63) {x0 x2 : Int64} (hx : lg_cmp (x0 ^^^ x2) (0 : Int64) < 0 ↔ sgN g ≠ sgN l) : f_X3_plus_80 x0 x2 (lN g) (lN l) = some (lN (FP.Core.add FP.Core.b64 g l)) := by
  unfold f_X3_plus_80
  rw [exponent_ok hg, bind_e, fraction_ok hg, bind_e]
  simp only [bd_e]
  rw [fraction_ok hl, bind_e, exponent_ok hl, bind_e, show (8 : Int32) = nI 8 from rfl, lshN _ (by omega), lshN _ (by omega), show (2 : Nat) ^ 8 = 256 from rfl]
  have hT : FP.Core.b64.tails = 2 ^ 52 := FP.Core.tails_b64
  have f1 := frN_lt g
  have f2 := frN_lt l
  have m1 := exN_mono hle
  have m2 := exN_lt hfg
  have m3 := fr_mono hle
  have m4 : 1 ≤ exN l := by unfold exN; omega
  have hnorm : 9 ≤ exN g - exN l → FP.Core.b64.tails ≤ frN g := fun hk => by
    unfold frN
    have : ¬ g % 2 ^ 63 / FP.Core.b64.tails = 0 := fun z => by
      have : exN g = 1 := by unfold exN; rw [z]; rfl
      omega
    rw [if_neg this]; omega
  rw [pk_sub m1, shd_ok (by rw [hT] at f2; omega) (by omega), bind_e]
  have hYlt : stk (frN l * 256) (exN g - exN l) < 2 ^ 61 := by
    rw [stk_lt (by omega)]
    have := Nat.pow_le_pow_right (n := 2) (by decide) (show 61 ≤ 61 + (exN g - exN l) by omega)
    rw [hT] at f2; omega
  have hXe : frN g * 256 % 2 = 0 := by omega
  have hXl : frN g * 256 < 2 ^ 61 := by rw [hT] at f1; omega
  unfold FP.Core.add
  rw [dec_fin hg hfg, dec_fin hl (by omega)]
  have hq : (exN g : Int) - 1075 = ((exN l : Int) - 1075) + ((exN g - exN l : Nat) : Int) := by omega
  have hq2 : (exN g : Int) - 1083 = ((exN l : Int) - 1075 - 8) + ((exN g - exN l : Nat) : Int) := by omega
  rw [hq, sign_ok hg]
  by_cases c : sgN g ≠ sgN l
  · rw [if_pos (hx.mpr c)]
    have hs : sgN l = !(sgN g) := by
      revert c; cases sgN g <;> cases sgN l <;> simp
    rw [hs, sum_opp m3]
    have hsub := stk_sub (X := frN g * 256) (Y := frN l * 256) (k := exN g - exN l) hXe (by
      have := Nat.mul_le_mul_right 256 m3
      rw [Nat.mul_right_comm] at this
      exact this)
    by_cases c0 : frN g * 2 ^ (exN g - exN l) = frN l
    · have e0 : frN g * 256 * 2 ^ (exN g - exN l) - frN l * 256 = 0 := by rw [Nat.mul_right_comm, c0]; omega
      rw [e0, stk_zero.mpr rfl, Nat.zero_add] at hsub
      rw [if_pos ((lg_cmp_eq _ _).mpr (by rw [hsub])), if_pos c0]
      unfold FP.Core.round FP.Core.roundRatio
      dsimp only
      rw [if_pos rfl, enc_fin, if_pos (FP.Core.tails_pos FP.Core.b64)]
      simp
      rfl
    · have hne : frN g * 256 ≠ stk (frN l * 256) (exN g - exN l) := fun z => c0 (by
        have : stk (frN g * 256 * 2 ^ (exN g - exN l) - frN l * 256) (exN g - exN l) = 0 := by omega
        have := stk_zero.mp this
        rw [Nat.mul_right_comm] at this
        omega)
      rw [if_neg (fun z => hne ((lN_inj (by omega) (by omega)).mp ((lg_cmp_eq _ _).mp z))), if_neg c0, lN_sub (by omega), roundedOff_ok (by omega) (by omega) (by omega), bind_e]
      unfold FP.Core.round
      dsimp only
      rw [← scale8 (A := frN g * 2 ^ (exN g - exN l) - frN l), Nat.sub_mul, Nat.mul_right_comm, hq2, show frN g * 256 - stk (frN l * 256) (exN g - exN l) = stk (frN g * 256 * 2 ^ (exN g - exN l) - frN l * 256) (exN g - exN l) by omega, round_stk (cond_k (c := frN g) (d := frN l) (Or.inr rfl) f2 hnorm)]
  · rw [if_neg (fun z => c (hx.mp z))]
    have hs : sgN l = sgN g := by
      revert c; cases sgN g <;> cases sgN l <;> simp
    have hm62 : frN g * 256 + stk (frN l * 256) (exN g - exN l) < 2 ^ 62 := Nat.lt_of_lt_of_le (Nat.add_lt_add hXl hYlt) (by decide)
    rw [hs, sum_same, lN_add, roundedOff_ok (s := sgN g) hm62 (by omega) (by omega), bind_e]
    unfold FP.Core.round
    dsimp only
    rw [← scale8 (A := frN g * 2 ^ (exN g - exN l) + frN l), Nat.add_mul, Nat.mul_right_comm, hq2, ← stk_add hXe, round_stk (cond_k (c := frN g) (d := frN l) (Or.inl rfl) f2 hnorm)]
theorem add_comm64 (a b : Nat) : FP.Core.add FP.Core.b64 a b = FP.Core.add FP.Core.b64 b a := by unfold FP.Core.add; rw [FP.Core.exactSum_comm]
theorem isI_N {n : Nat} (hn : n < 2 ^ 64) : isI (lN n) = decide (n % 2 ^ 63 = 2047 * FP.Core.b64.tails) := by
  unfold isI
  rw [show (9223372036854775807 : Int64) = lN (2 ^ 63 - 1) from rfl, g_mask (s := 63) rfl (by omega) hn, inf64]
  apply decide_eq_decide.mpr
  exact lN_inj (by omega) (by have := tl63; omega)
theorem isN_N {n : Nat} (hn : n < 2 ^ 64) : isN (lN n) = decide (n % 2 ^ 63 ≤ 2047 * FP.Core.b64.tails) := by
  unfold isN
  rw [show (9223372036854775807 : Int64) = lN (2 ^ 63 - 1) from rfl, g_mask (s := 63) rfl (by omega) hn, inf64]
  apply decide_eq_decide.mpr
  have h := tl63
  rw [fa_le64, pf_lI (by omega), pf_lI (by omega)]; omega
theorem nan64 : FP.Core.encode FP.Core.b64 .nan = 9221120237041090560 := by decide +kernel
theorem plus_N {a b : Nat} (ha : a < 2 ^ 64) (hb : b < 2 ^ 64) (na : a % 2 ^ 63 ≤ 2047 * FP.Core.b64.tails) (nb : b % 2 ^ 63 ≤ 2047 * FP.Core.b64.tails) : F_X3_plus (lN a) (lN b) = some (lN (FP.Core.add FP.Core.b64 a b)) := by
  unfold F_X3_plus f_X3_plus f_X3_plus_26
  rw [isInfinite_ok, bind_e, isI_N ha, isInfinite_ok, isI_N hb]
  simp only [bind_e]
  by_cases ca : a % 2 ^ 63 = 2047 * FP.Core.b64.tails
  · rw [if_neg (by simp [ca])]
    unfold FP.Core.add
    rw [dec_inf ha ca]
    by_cases cb : b % 2 ^ 63 = 2047 * FP.Core.b64.tails
    · rw [if_neg (by simp [cb]), dec_inf hb cb]
      unfold FP.Core.exactSum
      dsimp only
      by_cases cs : sgN a = sgN b
      · have hab : a = b := by
          unfold sgN at cs
          have := decide_eq_decide.mp cs
          omega
        rw [if_pos ((lg_cmp_eq _ _).mpr (by rw [hab])), if_pos cs]
        unfold FP.Core.round
        dsimp only
        rw [← dec_inf ha ca, FP.Core.encode_decode FP.Core.good_b64 a (by rw [FP.Core.size_b64]; exact ha) (by rw [dec_inf ha ca]; simp)]
      · rw [if_neg (fun z => cs (by have := (lN_inj ha hb).mp ((lg_cmp_eq _ _).mp z); rw [this])), if_neg cs]
        unfold FP.Core.round
        dsimp only
        rw [nan64]; rfl
    · rw [if_pos (by simp [cb]), dec_fin hb (by omega)]
      unfold FP.Core.exactSum FP.Core.round
      dsimp only
      rw [← dec_inf ha ca, FP.Core.encode_decode FP.Core.good_b64 a (by rw [FP.Core.size_b64]; exact ha) (by rw [dec_inf ha ca]; simp)]
  · rw [if_pos (by simp [ca])]
    by_cases cb : b % 2 ^ 63 = 2047 * FP.Core.b64.tails
    · rw [if_neg (by simp [cb])]
      unfold FP.Core.add
      rw [dec_inf hb cb, dec_fin ha (by omega)]
      unfold FP.Core.exactSum FP.Core.round
      dsimp only
      rw [← dec_inf hb cb, FP.Core.encode_decode FP.Core.good_b64 b (by rw [FP.Core.size_b64]; exact hb) (by rw [dec_inf hb cb]; simp)]
    · rw [if_pos (by simp [cb])]
      unfold f_X3_plus_56 f_X3_plus_68
      rw [show (9223372036854775807 : Int64) = lN (2 ^ 63 - 1) from rfl, g_mask (s := 63) rfl (by omega) ha, g_mask (s := 63) rfl (by omega) hb]
      by_cases c : a % 2 ^ 63 < b % 2 ^ 63
      · rw [if_pos ((lg_cmp_lt _ _).mpr ((lN_lt63 (by omega) (by omega)).mpr c)), if_pos rfl, if_pos rfl, plus80 hb ha (by omega) (by omega) (by rw [xor_sg ha hb]; exact ⟨fun z => z.symm, fun z => z.symm⟩), add_comm64]
      · rw [if_neg (fun z => c ((lN_lt63 (by omega) (by omega)).mp ((lg_cmp_lt _ _).mp z))), if_neg (by decide), if_neg (by decide), plus80 ha hb (by omega) (by omega) (xor_sg ha hb)]
