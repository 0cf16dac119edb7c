/-! ===== a double times a whole number ===== -/
theorem max29 : ∀ a, a ≤ 64 → F_J9_max_7cf53 (0 : Int32) (nI a - (29 : Int32)) = some (nI (a - 29)) := by decide +kernel
theorem cw_split {c w : Nat} : c / 2 ^ 32 * w + c % 2 ^ 32 * w / 2 ^ 32 = c * w / 2 ^ 32 ∧ c % 2 ^ 32 * w % 2 ^ 32 = c * w % 2 ^ 32 := by
  have h := Nat.div_add_mod c (2 ^ 32)
  have e : c * w = c % 2 ^ 32 * w + 2 ^ 32 * (c / 2 ^ 32 * w) := by
    rw [← Nat.mul_assoc, ← Nat.add_mul, Nat.add_comm, h]
  rw [e, Nat.add_mul_div_left _ _ (by decide), Nat.add_mul_mod_self_left]
  exact ⟨Nat.add_comm _ _, rfl⟩
theorem stk_split {P ab : Nat} (h : ab ≤ 32) : P / 2 ^ ab = P / 2 ^ 32 * 2 ^ (32 - ab) + P % 2 ^ 32 / 2 ^ ab ∧ P % 2 ^ ab = P % 2 ^ 32 % 2 ^ ab := by
  have hd := Nat.div_add_mod P (2 ^ 32)
  have e : (2 : Nat) ^ 32 = 2 ^ ab * 2 ^ (32 - ab) := by rw [← Nat.pow_add]; congr 1; omega
  constructor
  · have e2 : P = P % 2 ^ 32 + 2 ^ ab * (P / 2 ^ 32 * 2 ^ (32 - ab)) := by
      rw [Nat.mul_left_comm, ← e, Nat.mul_comm (P / 2 ^ 32)]; omega
    have : P / 2 ^ ab = (P % 2 ^ 32 + 2 ^ ab * (P / 2 ^ 32 * 2 ^ (32 - ab))) / 2 ^ ab := by rw [← e2]
    rw [this, Nat.add_mul_div_left _ _ (Nat.two_pow_pos ab), Nat.add_comm]
  · exact (Nat.mod_mod_of_dvd P (Nat.pow_dvd_pow 2 h)).symm
theorem times_fin {n w : Nat} (hn : n < 2 ^ 64) (hf : n % 2 ^ 63 < 2047 * FP.Core.b64.tails) (hw1 : 1 ≤ w) (hw : w < 2147483648) : F_X3_times (lN n) (nI w) = some (lN (FP.Core.encode FP.Core.b64 (FP.Core.roundRatio FP.Core.b64 (sgN n) (frN n * w) 1 ((exN n : Int) - 1075)))) := by
  unfold F_X3_times f_X3_times f_X3_times_101
  rw [isInfinite_ok, bind_e, isI_N hn, if_pos (by simp; omega), fraction_ok hn, bind_e]
  simp only [bd_e]
  have hT : FP.Core.b64.tails = 2 ^ 52 := FP.Core.tails_b64
  have hc : frN n < 2 ^ 53 := by have := frN_lt n; rw [hT] at this; omega
  have hex := exN_lt hf
  have hex1 : 1 ≤ exN n := by unfold exN; omega
  rw [nI_long hw, show (4294967295 : Int64) = lN (2 ^ 32 - 1) from rfl, g_mask (s := 32) rfl (by omega) (by omega), lN_mul, show (32 : Int32) = nI 32 from rfl, lus (by omega) 32 (by omega), lN_mul]
  have hlo : frN n % 2 ^ 32 * w < 2 ^ 63 := by
    have h1 : frN n % 2 ^ 32 * w ≤ 2 ^ 32 * w := Nat.mul_le_mul_right _ (by omega)
    omega
  rw [lus (by omega) 32 (by omega), lN_add, g_mask (s := 32) rfl (by omega) (by omega), cw_split.1, cw_split.2]
  have hP : frN n * w < 2 ^ 84 := by
    have h1 : frN n * w ≤ 2 ^ 53 * w := Nat.mul_le_mul_right _ (by omega)
    omega
  rw [exponent_ok hn, sign_ok hn]
  generalize frN n * w = P at hP
  have hH : P / 2 ^ 32 < 2 ^ 52 := by omega
  have hz := lz_ok (n := P / 2 ^ 32) (by omega)
  have hz2 : P / 2 ^ 32 ≠ 0 → lz (lN (P / 2 ^ 32)) ≤ 63 ∧ 2 ^ (63 - lz (lN (P / 2 ^ 32))) ≤ P / 2 ^ 32 := fun h0 => lz_low (by omega) (by omega)
  have hz0 : P / 2 ^ 32 = 0 → lz (lN (P / 2 ^ 32)) = 64 := fun h0 => by rw [h0]; decide +kernel
  rw [hz.1, bind_e]
  generalize lz (lN (P / 2 ^ 32)) = z at hz hz2 hz0
  obtain ⟨-, hz64, hzu⟩ := hz
  have hz12 : 12 ≤ z := by
    by_cases h0 : P / 2 ^ 32 = 0
    · rw [hz0 h0]; decide
    · have h1 : 2 ^ (63 - z) < 2 ^ 52 := Nat.lt_of_le_of_lt (hz2 h0).2 hH
      have := (Nat.pow_lt_pow_iff_right (a := 2) (by decide)).mp h1
      omega
  rw [show (64 : Int32) = nI 64 from rfl, pk_sub hz64, max29 _ (by omega), bind_e]
  simp only [bind_e]
  have hab : 64 - z - 29 ≤ 23 := by omega
  have hpos : 64 - z - 29 ≠ 0 → 2 ^ (64 - z - 29 + 60) ≤ P := fun h0 => by
    have h1 : P / 2 ^ 32 ≠ 0 := fun q => by have := hz0 q; omega
    have h2 := (hz2 h1).2
    have h3 : 2 ^ (64 - z - 29 + 60) = 2 ^ (63 - z) * 2 ^ 32 := by rw [← Nat.pow_add]; congr 1; omega
    rw [h3]
    exact (Nat.le_div_iff_mul_le (by decide)).mp h2
  have hup : P < 2 ^ (61 + (64 - z - 29)) := by
    have h1 : P < 2 ^ (64 - z) * 2 ^ 32 := (Nat.div_lt_iff_lt_mul (by decide)).mp hzu
    rw [← Nat.pow_add] at h1
    exact Nat.lt_of_lt_of_le h1 (Nat.pow_le_pow_right (by decide) (by omega))
  generalize 64 - z - 29 = ab at hab hpos hup
  have hp2 : 2 ^ ab < 2 ^ 64 := Nat.pow_lt_pow_right (by decide) (by omega)
  have hplo : P % 2 ^ 32 < 2 ^ 32 := Nat.mod_lt _ (by decide)
  have hdl : P % 2 ^ 32 / 2 ^ ab < 2 ^ (32 - ab) := by
    refine (Nat.div_lt_iff_lt_mul (Nat.two_pow_pos ab)).mpr ?_
    rw [← Nat.pow_add, show 32 - ab + ab = 32 by omega]; exact hplo
  have hq : P / 2 ^ ab < 2 ^ 61 := by
    refine (Nat.div_lt_iff_lt_mul (Nat.two_pow_pos ab)).mpr ?_
    rw [← Nat.pow_add]; exact hup
  have hor : lshl (lN (P / 2 ^ 32)) (nI 32 - nI ab) ||| lushr (lN (P % 2 ^ 32)) (nI ab) = lN (P / 2 ^ ab) := by
    rw [pk_sub (by omega), lshN _ (by omega), lus (by omega) ab (by omega), g_or (k := 32 - ab) rfl hdl (by rw [← (stk_split (P := P) (ab := ab) (by omega)).1]; omega), ← (stk_split (P := P) (ab := ab) (by omega)).1]
  rw [show (1 : Int64) = lN 1 from rfl, lshN 1 (by omega), Nat.one_mul, lN_sub (Nat.two_pow_pos ab), wb_mask (by omega) (by omega), hor, ← (stk_split (P := P) (ab := ab) (by omega)).2]
  have hfin : (F_X3_roundedOff (sgW (sgN n)) (nI (exN n) + (8 : Int32) + nI ab) (lN (stk P ab))).bind (fun q3 => some q3) = some (lN (FP.Core.encode FP.Core.b64 (FP.Core.roundRatio FP.Core.b64 (sgN n) P 1 ((exN n : Int) - 1075)))) := by
    have h62 : stk P ab < 2 ^ 62 := by
      rw [stk_lt (by omega)]
      exact Nat.lt_of_lt_of_le hup (Nat.pow_le_pow_right (by decide) (by omega))
    rw [show (8 : Int32) = nI 8 from rfl, nI_add, nI_add, roundedOff_ok h62 (by omega) (by omega), bind_e]
    have := round_stk (s := sgN n) (A := P) (k := ab) (e := (exN n : Int) - 1075) (by
      by_cases h0 : ab = 0
      · left; rw [h0, Nat.pow_zero, Nat.mod_one]
      · right; exact Nat.le_trans (Nat.pow_le_pow_right (by decide) (by omega)) (hpos h0))
    rw [← this]
    congr 4
    omega
  unfold stk at hfin
  have hmm := Nat.mod_lt P (Nat.two_pow_pos ab)
  by_cases c0 : P % 2 ^ ab = 0
  · rw [if_pos c0] at hfin
    rw [if_pos ((lg0 _).mpr ((lN_zero (by omega)).mpr c0)), show ((0 : Int32).toInt64) = 0 from rfl, Int64.or_zero]
    exact hfin
  · rw [if_neg c0, Nat.pow_succ, ← Nat.div_div_eq_div_mul] at hfin
    rw [if_neg (fun q => c0 ((lN_zero (by omega)).mp ((lg0 _).mp q))), show ((1 : Int32).toInt64) = lN 1 from rfl, or_one (by omega)]
    exact hfin
/-- the machine's product of a double and a whole number -/
theorem mul_fin {n : Nat} {x : Int64} {w : Nat} (hn : n < 2 ^ 64) (hf : n % 2 ^ 63 < 2047 * FP.Core.b64.tails) (hx : x.toInt = w) (hw : w < 2147483648) : FP.Core.mul FP.Core.b64 n (FP.Core.l2d x).toNat = FP.Core.encode FP.Core.b64 (FP.Core.roundRatio FP.Core.b64 (sgN n) (frN n * w) 1 ((exN n : Int) - 1075)) := by
  have h1 := FP.Core.l2d_whole (a := x) ⟨by omega, by omega⟩
  obtain ⟨c, q, h2⟩ := FP.Core.l2d_shape x
  rw [h2, decide_eq_false (by omega)] at h1
  rw [decide_eq_false (by omega)] at h2
  unfold FP.Core.mul
  have h3 : FP.Core.decode FP.Core.b64 (FP.Core.l2d x).toNat = .fin false c q := h2
  rw [h3, dec_fin hn hf]
  unfold FP.Core.exactProduct FP.Core.round
  dsimp only
  rw [show (sgN n != false) = sgN n by cases sgN n <;> rfl]
  congr 1
  refine FP.Core.roundRatio_congr (by decide) (by decide) ?_
  rw [show ((exN n : Int) - 1075 + q - ((exN n : Int) - 1075)).toNat = q.toNat by congr 1; omega, show ((exN n : Int) - 1075 - ((exN n : Int) - 1075 + q)).toNat = (-q).toNat by congr 1; omega, Nat.mul_one, Nat.mul_one]
  have h4 : ((c * 2 ^ q.toNat : Nat) : Int) = (w : Int) * ((2 ^ (-q).toNat : Nat) : Int) := by rw [← hx]; exact h1
  have h5 : c * 2 ^ q.toNat = w * 2 ^ (-q).toNat := by
    have : ((c * 2 ^ q.toNat : Nat) : Int) = ((w * 2 ^ (-q).toNat : Nat) : Int) := by rw [h4]; push_cast; rfl
    exact Int.ofNat_inj.mp this
  rw [Nat.mul_assoc, h5, Nat.mul_assoc]
theorem l2d_inf {x : Int64} {w : Nat} {s : Bool} (hx : x.toInt = w) (hw1 : 1 ≤ w) (hw : w < 2147483648) : FP.Core.exactProduct (.inf s) (FP.Core.decode FP.Core.b64 (FP.Core.l2d x).toNat) = .inf s := by
  have h1 := FP.Core.l2d_whole (a := x) ⟨by omega, by omega⟩
  obtain ⟨c, q, h2⟩ := FP.Core.l2d_shape x
  rw [h2, decide_eq_false (by omega)] at h1
  rw [decide_eq_false (by omega)] at h2
  have h3 : FP.Core.decode FP.Core.b64 (FP.Core.l2d x).toNat = .fin false c q := h2
  rw [h3]
  unfold FP.Core.exactProduct
  dsimp only
  have : c ≠ 0 := fun z => by
    have := (FP.Core.whole_zero h1).mp z
    omega
  rw [if_neg this]
  cases s <;> rfl
theorem times_N {n w : Nat} {x : Int64} (hn : n < 2 ^ 64) (hf : n % 2 ^ 63 ≤ 2047 * FP.Core.b64.tails) (hx : x.toInt = w) (hw1 : 1 ≤ w) (hw : w < 2147483648) : F_X3_times (lN n) (nI w) = some (lN (FP.Core.mul FP.Core.b64 n (FP.Core.l2d x).toNat)) := by
  by_cases c : n % 2 ^ 63 = 2047 * FP.Core.b64.tails
  · unfold F_X3_times f_X3_times FP.Core.mul
    rw [isInfinite_ok, bind_e, isI_N hn, if_neg (by simp [c]), dec_inf hn c, l2d_inf hx hw1 hw]
    unfold FP.Core.round
    dsimp only
    rw [← dec_inf hn c, FP.Core.encode_decode FP.Core.good_b64 n (by rw [FP.Core.size_b64]; exact hn) (by rw [dec_inf hn c]; simp)]
  · rw [times_fin hn (by omega) hw1 hw, mul_fin hn (by omega) hx hw]
