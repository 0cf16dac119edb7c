/-! ===== the class rounds off ===== -/
theorem lN_inj {a b : Nat} (ha : a < 2 ^ 64) (hb : b < 2 ^ 64) : lN a = lN b ↔ a = b :=
  ⟨fun h => by have := congrArg uN h; rw [uN_lN ha, uN_lN hb] at this; exact this, fun h => by rw [h]⟩
theorem lN_zero {a : Nat} (ha : a < 2 ^ 64) : lN a = 0 ↔ a = 0 := lN_inj (b := 0) ha (by decide)
theorem lN_lt63 {a b : Nat} (ha : a < 2 ^ 63) (hb : b < 2 ^ 63) : lN a < lN b ↔ a < b := by
  rw [fa_lt64, pf_lI ha, pf_lI hb]; omega
theorem lshN (n : Nat) {k : Nat} (hk : k < 64) : lshl (lN n) (nI k) = lN (n * 2 ^ k) := wb_shl n hk
theorem or_one {a : Nat} (h : a < 2 ^ 64) : lN a ||| lN 1 = lN (2 * (a / 2) + 1) := by
  have e := g_or (k := 1) (p := 2) (a := 1) (b := a / 2) rfl (by decide) (by omega)
  rcases (show a = a / 2 * 2 ∨ a = a / 2 * 2 + 1 by omega) with h1 | h1
  · rw [h1, e, Nat.mul_div_cancel _ (by decide), Nat.mul_comm]
  · rw [Nat.mul_comm 2, ← e]
    rw [show lN a = lN (a / 2 * 2) ||| lN 1 by rw [e, ← h1], Int64.or_assoc, Int64.or_self]
theorem shd_ok {n k : Nat} (hn : n < 2 ^ 63) (hk : k < 100000) : F_X3_shiftedDown (lN n) (nI k) = some (lN (stk n k)) := by
  unfold F_X3_shiftedDown f_X3_shiftedDown f_X3_shiftedDown_40
  rw [show (62 : Int32) = nI 62 from rfl]
  by_cases c : k ≤ 62
  · rw [if_pos ((nI_leI (by omega) (by omega)).mpr c)]
    simp only [bd_e]
    have hk2 : 2 ^ k < 2 ^ 63 := Nat.pow_lt_pow_right (by decide) (by omega)
    rw [show (1 : Int64) = lN 1 from rfl, lshN 1 (by omega), Nat.one_mul, lN_sub (Nat.two_pow_pos k), wb_mask (by omega) (by omega), lus (by omega) k (by omega)]
    have hm := Nat.mod_lt n (Nat.two_pow_pos k)
    unfold stk
    by_cases c2 : n % 2 ^ k = 0
    · rw [if_pos ((lg0 _).mpr ((lN_zero (by omega)).mpr c2)), if_pos c2, show ((0 : Int32).toInt64) = 0 from rfl, Int64.or_zero]
    · rw [if_neg (fun z => c2 ((lN_zero (by omega)).mp ((lg0 _).mp z))), if_neg c2, show ((1 : Int32).toInt64) = lN 1 from rfl, or_one (Nat.lt_of_le_of_lt (Nat.div_le_self _ _) (by omega)), Nat.pow_succ, ← Nat.div_div_eq_div_mul]
  · rw [if_neg (fun z => c ((nI_leI (by omega) (by omega)).mp z))]
    have hk2 : 2 ^ 63 ≤ 2 ^ k := Nat.pow_le_pow_right (by decide) (by omega)
    unfold stk
    rw [Nat.mod_eq_of_lt (by omega)]
    by_cases c2 : n = 0
    · rw [if_pos ((lg0 _).mpr ((lN_zero (by omega)).mpr c2)), if_pos c2, c2, Nat.zero_div]; rfl
    · rw [if_neg (fun z => c2 ((lN_zero (by omega)).mp ((lg0 _).mp z))), if_neg c2, Nat.pow_succ, Nat.div_eq_of_lt (by omega)]; rfl
theorem near256 (m : Nat) : FP.Core.nearest m 256 = if 128 < m % 256 ∨ (m % 256 = 128 ∧ m / 256 % 2 = 1) then m / 256 + 1 else m / 256 := by
  unfold FP.Core.nearest
  have := Nat.mod_lt m (show 0 < 256 by decide)
  generalize m % 256 = r at *
  generalize m / 256 = q
  by_cases c1 : 2 * r < 256
  · rw [if_pos c1, if_neg (by omega)]
  · rw [if_neg c1]
    by_cases c2 : 256 < 2 * r
    · rw [if_pos c2, if_pos (by omega)]
    · rw [if_neg c2]
      by_cases c3 : q % 2 = 1
      · rw [if_pos (by omega), c3]
      · rw [if_neg (by omega)]; omega
theorem tl63 : 2048 * FP.Core.b64.tails = 2 ^ 63 := by rw [tl64]
theorem inf64 : (9218868437227405312 : Int64) = lN (2047 * FP.Core.b64.tails) := by rw [tl64]; rfl
theorem min64 {a b : Nat} (ha : a < 2 ^ 63) (hb : b < 2 ^ 63) : F_J9_min_f86c9 (lN a) (lN b) = some (lN (min a b)) := by
  unfold F_J9_min_f86c9 f_J9_min_f86c9
  by_cases c : b < a
  · rw [if_pos ((lg_cmp_gt _ _).mpr ((lN_lt63 hb ha).mpr c)), Nat.min_eq_right (by omega)]
  · rw [if_neg (fun z => c ((lN_lt63 hb ha).mp ((lg_cmp_gt _ _).mp z))), Nat.min_eq_left (by omega)]
/-- the sign's word -/
def sgW (s : Bool) : Int64 := lN (s.toNat * (2048 * FP.Core.b64.tails))
theorem r155 {s : Bool} {x2 : Int32} {x3 : Int64} {a : Nat} (ha : a < 2 ^ 63) : f_X3_roundedOff_155 (sgW s) x2 x3 (lN a) = some (lN (s.toNat * (2048 * FP.Core.b64.tails) + min a (2047 * FP.Core.b64.tails))) := by
  unfold f_X3_roundedOff_155 sgW
  have h1 : 2047 * FP.Core.b64.tails < 2 ^ 63 := by rw [tl64]; decide
  rw [inf64, min64 ha h1, bind_e, tl63]
  have h2 : s.toNat ≤ 1 := by cases s <;> decide
  have h3 : min a (2047 * FP.Core.b64.tails) < 2 ^ 63 := by omega
  rw [g_or (k := 63) (p := 2 ^ 63) rfl h3 (by omega)]
theorem r130 {s : Bool} {x2 : Int32} {x3 : Int64} {e c : Nat} (he : 1 ≤ e) (he2 : e < 100000) (hc : c ≤ 2 * FP.Core.b64.tails) : f_X3_roundedOff_130 (sgW s) x2 x3 (nI e) (lN c) = some (lN (s.toNat * (2048 * FP.Core.b64.tails) + if 2047 ≤ e then 2047 * FP.Core.b64.tails else min ((e - 1) * FP.Core.b64.tails + c) (2047 * FP.Core.b64.tails))) := by
  unfold f_X3_roundedOff_130
  have h1 : 2047 * FP.Core.b64.tails < 2 ^ 63 := by rw [tl64]; decide
  rw [show (2047 : Int32) = nI 2047 from rfl]
  by_cases c1 : e < 2047
  · rw [if_pos ((nI_ltI (by omega) (by omega)).mpr c1), if_neg (by omega), show nI e - (1 : Int32) = nI (e - 1) from pk_sub (b := 1) he, nI_long (by omega), show (52 : Int32) = nI 52 from rfl, lshN _ (by omega), lN_add, ← FP.Core.tails_b64]
    have hE := eT (T := FP.Core.b64.tails) (show e - 1 ≤ 2045 by omega)
    have h2 := tl63
    exact r155 (by omega)
  · rw [if_neg (fun z => c1 ((nI_ltI (by omega) (by omega)).mp z)), if_pos (by omega), inf64, r155 h1, Nat.min_self]
theorem r70 {s : Bool} {x2 : Int32} {x3 : Int64} {e m : Nat} (hm : m < 2 ^ 61) (he : 1 ≤ e) (he2 : e < 100000) (h : m = 0 ∨ e = 1 ∨ 2 ^ 60 ≤ m) : f_X3_roundedOff_70 (sgW s) x2 x3 (nI e) (lN m) = some (lN (FP.Core.encode FP.Core.b64 (FP.Core.roundRatio FP.Core.b64 s m 1 ((e : Int) - 1083)))) := by
  unfold f_X3_roundedOff_70 f_X3_roundedOff_124
  by_cases c0 : m = 0
  · rw [if_pos ((lg0 _).mpr ((lN_zero (by omega)).mpr c0)), c0]
    unfold FP.Core.roundRatio sgW
    rw [if_pos rfl, enc_fin, if_pos (FP.Core.tails_pos FP.Core.b64), ex64, Nat.add_zero, Nat.add_zero, Nat.mul_assoc]
  · rw [if_neg (fun z => c0 ((lN_zero (by omega)).mp ((lg0 _).mp z)))]
    simp only [bd_e]
    have hT : FP.Core.b64.tails = 2 ^ 52 := FP.Core.tails_b64
    have hmm := Nat.mod_lt m (show 0 < 256 by decide)
    rw [core_round (by omega) hm he (h.resolve_left c0)]
    unfold rndM
    rw [near256, show (255 : Int64) = lN (256 - 1) from rfl, g_mask (s := 8) (p := 256) rfl (by omega) (by omega), show (8 : Int32) = nI 8 from rfl, lus (by omega) 8 (by omega), show (2 : Nat) ^ 8 = 256 from rfl, show (128 : Int64) = lN 128 from rfl, g_and1 (by omega), lN_1, show (1 : Int64) = lN 1 from rfl]
    have hq : m / 256 + 1 ≤ 2 * FP.Core.b64.tails := by rw [hT]; omega
    by_cases c1 : 128 < m % 256
    · rw [if_pos ((lg_cmp_gt _ _).mpr ((lN_lt63 (by omega) (by omega)).mpr c1)), if_pos (Or.inl c1)]
      exact r130 he he2 hq
    · rw [if_neg (fun z => c1 ((lN_lt63 (by omega) (by omega)).mp ((lg_cmp_gt _ _).mp z)))]
      by_cases c2 : m % 256 = 128
      · rw [if_pos ((lgN (by omega) (by omega)).mpr c2)]
        by_cases c3 : m / 256 % 2 = 1
        · rw [if_pos ((lgN (b := 1) (by omega) (by omega)).mpr c3), if_pos (Or.inr ⟨c2, c3⟩)]
          exact r130 he he2 hq
        · rw [if_neg (fun z => c3 ((lgN (b := 1) (by omega) (by omega)).mp z)), if_neg (show ¬ (128 < m % 256 ∨ (m % 256 = 128 ∧ m / 256 % 2 = 1)) by omega)]
          exact r130 he he2 (Nat.le_of_succ_le hq)
      · rw [if_neg (fun z => c2 ((lgN (by omega) (by omega)).mp z)), if_neg (show ¬ (128 < m % 256 ∨ (m % 256 = 128 ∧ m / 256 % 2 = 1)) by omega)]
        exact r130 he he2 (Nat.le_of_succ_le hq)
theorem min32 {a b : Nat} (ha : a < 2147483648) (hb : b < 2147483648) : F_J9_min_7cf53 (nI a) (nI b) = some (nI (min a b)) := by
  unfold F_J9_min_7cf53 f_J9_min_7cf53
  by_cases c : b < a
  · rw [if_pos ((nI_ltI hb ha).mpr c), Nat.min_eq_right (by omega)]
  · rw [if_neg (fun z => c ((nI_ltI hb ha).mp z)), Nat.min_eq_left (by omega)]
theorem roundedOff_ok {s : Bool} {m e : Nat} (hm : m < 2 ^ 62) (he : 1 ≤ e) (he2 : e < 10000) : F_X3_roundedOff (sgW s) (nI e) (lN m) = some (lN (FP.Core.encode FP.Core.b64 (FP.Core.roundRatio FP.Core.b64 s m 1 ((e : Int) - 1083)))) := by
  unfold F_X3_roundedOff f_X3_roundedOff
  rw [show (60 : Int32) + (1 : Int32) = nI 61 from rfl, lus (by omega) 61 (by omega)]
  have hd : m / 2 ^ 61 < 2 := by omega
  by_cases c : m < 2 ^ 61
  · rw [if_pos ((lgN0 (by omega)).mpr (by omega))]
    have hz : lz (lN m) ≤ 64 ∧ 3 ≤ lz (lN m) ∧ (m ≠ 0 → 2 ^ (63 - lz (lN m)) ≤ m) := by
      refine ⟨(lz_ok (n := m) (by omega)).2.1, ?_, ?_⟩
      · rcases Nat.eq_zero_or_pos m with h0 | h0
        · rw [h0, show lz (lN 0) = 64 by decide +kernel]; decide
        · have := (lz_low (n := m) (by omega) h0).2
          have h2 : 2 ^ (63 - lz (lN m)) < 2 ^ 61 := by omega
          have := (Nat.pow_lt_pow_iff_right (a := 2) (by decide)).mp h2
          omega
      · intro h0; exact (lz_low (n := m) (by omega) (by omega)).2
    have hup := (lz_ok (n := m) (by omega)).2.2
    rw [(lz_ok (n := m) (by omega)).1, bind_e]
    generalize lz (lN m) = z at hz hup
    rw [show (63 : Int32) - (60 : Int32) = nI 3 from rfl, pk_sub hz.2.1, show nI e - (1 : Int32) = nI (e - 1) from pk_sub (b := 1) he, min32 (by omega) (by omega), bind_e]
    simp only [bd_e]
    have hu : min (z - 3) (e - 1) < 64 := by omega
    rw [lshN m hu, pk_sub (by omega)]
    have hlt : m * 2 ^ min (z - 3) (e - 1) < 2 ^ 61 := by
      rcases Nat.eq_zero_or_pos m with h0 | h0
      · rw [h0]; omega
      · have h1 : m * 2 ^ min (z - 3) (e - 1) ≤ m * 2 ^ (z - 3) := Nat.mul_le_mul_left _ (Nat.pow_le_pow_right (by decide) (Nat.min_le_left _ _))
        have h2 : m * 2 ^ (z - 3) < 2 ^ (64 - z) * 2 ^ (z - 3) := Nat.mul_lt_mul_of_pos_right hup (Nat.two_pow_pos _)
        rw [← Nat.pow_add, show 64 - z + (z - 3) = 61 by omega] at h2
        omega
    rw [r70 hlt (by omega) (by omega) (by
      rcases Nat.eq_zero_or_pos m with h0 | h0
      · left; rw [h0]; simp
      · right
        rcases Nat.le_total (z - 3) (e - 1) with h1 | h1
        · right
          rw [Nat.min_eq_left h1]
          have h2 := Nat.mul_le_mul_right (2 ^ (z - 3)) (hz.2.2 (by omega))
          by_cases hz63 : z ≤ 63
          · rw [← Nat.pow_add, show 63 - z + (z - 3) = 60 by omega] at h2
            exact h2
          · have : z = 64 := by omega
            subst this
            rw [show 64 - 64 = 0 from rfl] at hup
            omega
        · left; rw [Nat.min_eq_right h1]; omega)]
    congr 3
    refine FP.Core.roundRatio_congr (by decide) (by decide) ?_
    have hle : min (z - 3) (e - 1) ≤ e - 1 := Nat.min_le_right _ _
    generalize min (z - 3) (e - 1) = u at hle
    rw [show (((e - u : Nat) : Int) - 1083 - ((e : Int) - 1083)).toNat = 0 by omega, show ((e : Int) - 1083 - (((e - u : Nat) : Int) - 1083)).toNat = u by omega, Nat.pow_zero, Nat.mul_one, Nat.mul_one, Nat.mul_one]
  · rw [if_neg (fun z => by have := (lgN0 (by omega)).mp z; omega), show (1 : Int32) = nI 1 from rfl, shd_ok (by omega) (by omega), bind_e]
    simp only [bd_e]
    rw [nI_add, r70 ((stk_lt (by omega)).mpr hm) (by omega) (by omega) (by
      right; right
      rcases Nat.lt_or_ge (stk m 1) (2 ^ 60) with h1 | h1
      · have := (stk_lt (by omega)).mp h1; omega
      · exact h1)]
    have := round_stk (s := s) (A := m) (k := 1) (e := (e : Int) - 1083) (Or.inr (by omega))
    rw [← this]
    congr 4
    omega
