/-! ===== doubles, reckoned with in whole numbers ===== -/
/-- shifted down, what is lost kept as a lowest bit -/
def stk (A k : Nat) : Nat := if A % 2 ^ k = 0 then A / 2 ^ k else 2 * (A / 2 ^ (k + 1)) + 1
theorem near_stk {A k d : Nat} (hd : 2 ≤ d) : FP.Core.nearest (stk A k) (2 ^ d) = FP.Core.nearest A (2 ^ (d + k)) := by
  unfold stk
  by_cases c : A % 2 ^ k = 0
  · rw [if_pos c]
    have e : A / 2 ^ k * 2 ^ k = A := Nat.div_mul_cancel (Nat.dvd_of_mod_eq_zero c)
    have := FP.Core.nearest_scale (A / 2 ^ k) (2 ^ d) (2 ^ k) (Nat.two_pow_pos k)
    rw [e, ← Nat.pow_add] at this
    exact this.symm
  · rw [if_neg c]
    have hv : A % 2 ^ (k + 1) ≠ 0 := fun z => c (by
      have := Nat.dvd_trans (Nat.pow_dvd_pow 2 (Nat.le_succ k)) (Nat.dvd_of_mod_eq_zero z)
      exact Nat.mod_eq_zero_of_dvd this)
    have hW : 0 < 2 ^ (k + 1) := Nat.two_pow_pos _
    have e1 : 2 ^ (d + k) = 2 ^ (k + 1) * (2 * 2 ^ (d - 2)) := by
      rw [show 2 * 2 ^ (d - 2) = 2 ^ (d - 1) by rw [show d - 1 = (d - 2) + 1 by omega, Nat.pow_succ, Nat.mul_comm], ← Nat.pow_add]
      congr 1; omega
    have e2 : 2 ^ d = 2 * (2 * 2 ^ (d - 2)) := by
      rw [← Nat.pow_succ', ← Nat.pow_succ']; congr 1; omega
    have hD' : 0 < 2 ^ (d - 2) := Nat.two_pow_pos _
    rw [e1, e2]
    generalize 2 ^ (d - 2) = D' at hD'
    have hvl := Nat.mod_lt A hW
    have a1 : A / (2 ^ (k + 1) * (2 * D')) = A / 2 ^ (k + 1) / (2 * D') := (Nat.div_div_eq_div_mul ..).symm
    have a2 : A % (2 ^ (k + 1) * (2 * D')) = A % 2 ^ (k + 1) + 2 ^ (k + 1) * (A / 2 ^ (k + 1) % (2 * D')) := Nat.mod_mul
    generalize hu : A / 2 ^ (k + 1) = u at a1 a2 ⊢
    generalize A % 2 ^ (k + 1) = v at a2 hv hvl
    generalize 2 ^ (k + 1) = W at hW a1 a2 hvl ⊢
    have b1 : (2 * u + 1) / (2 * (2 * D')) = u / (2 * D') := by
      rw [← Nat.div_div_eq_div_mul]; congr 1; omega
    have b2 : (2 * u + 1) % (2 * (2 * D')) = 1 + 2 * (u % (2 * D')) := by
      rw [Nat.mod_mul]
      have : (2 * u + 1) / 2 = u := by omega
      rw [this]; omega
    unfold FP.Core.nearest
    rw [a1, a2, b1, b2]
    have hy := Nat.mod_lt u (show 0 < 2 * D' by omega)
    generalize u % (2 * D') = y at hy ⊢
    generalize u / (2 * D') = x
    rcases Nat.lt_or_ge y D' with h | h
    · have h1 : W * (2 * y + 2) ≤ W * (2 * D') := Nat.mul_le_mul_left _ (by omega)
      rw [Nat.mul_add, ← Nat.mul_assoc W 2 y, Nat.mul_comm W 2, Nat.mul_assoc 2 W y] at h1
      rw [if_pos (by omega), if_pos (by omega)]
    · have h1 : W * (2 * D') ≤ W * (2 * y) := Nat.mul_le_mul_left _ (by omega)
      rw [← Nat.mul_assoc W 2 y, Nat.mul_comm W 2, Nat.mul_assoc 2 W y] at h1
      rw [if_neg (by omega), if_pos (by omega), if_neg (by omega), if_pos (by omega)]
theorem stk_lt {A k n : Nat} (hn : 1 ≤ n) : stk A k < 2 ^ n ↔ A < 2 ^ (n + k) := by
  unfold stk
  rw [Nat.pow_add 2 n k]
  have h1 : A / 2 ^ k < 2 ^ n ↔ A < 2 ^ n * 2 ^ k := Nat.div_lt_iff_lt_mul (Nat.two_pow_pos k)
  rw [← h1]
  by_cases c : A % 2 ^ k = 0
  · rw [if_pos c]
  · rw [if_neg c, Nat.pow_succ, ← Nat.div_div_eq_div_mul]
    rw [show n = (n - 1) + 1 by omega, Nat.pow_succ]
    omega
theorem stk_zero {A k : Nat} : stk A k = 0 ↔ A = 0 := by
  unfold stk
  by_cases c : A % 2 ^ k = 0
  · rw [if_pos c]
    have := Nat.div_add_mod A (2 ^ k)
    rw [c] at this
    constructor
    · intro h; rw [h] at this; simpa using this.symm
    · intro h; rw [h]; simp
  · rw [if_neg c]
    constructor
    · intro h; omega
    · intro h; rw [h] at c; simp at c
theorem below_nat (A x : Nat) : FP.Core.Below A 1 (x : Int) ↔ A < 2 ^ x := by
  have := FP.Core.below_iff A 1 x 0
  simp only [Nat.pow_zero, Nat.mul_one, Nat.one_mul] at this
  rw [← this]
  simp
/-- rounding sees no more of a number than that -/
theorem round_stk {s : Bool} {A k : Nat} {e : Int} (h : A % 2 ^ k = 0 ∨ 2 ^ (k + 55) ≤ A) : FP.Core.roundRatio FP.Core.b64 s (stk A k) 1 (e + k) = FP.Core.roundRatio FP.Core.b64 s A 1 e := by
  by_cases c : A % 2 ^ k = 0
  · refine FP.Core.roundRatio_congr (by decide) (by decide) ?_
    unfold stk
    rw [if_pos c, show (e + k - e).toNat = k by omega, show (e - (e + k)).toNat = 0 by omega, Nat.mul_one, Nat.mul_one, Nat.mul_one]
    exact Nat.div_mul_cancel (Nat.dvd_of_mod_eq_zero c)
  · have hA := h.resolve_left c
    have hA0 : 0 < A := Nat.lt_of_lt_of_le (Nat.two_pow_pos _) hA
    have hS0 : stk A k ≠ 0 := fun z => by have := stk_zero.mp z; omega
    unfold FP.Core.roundRatio
    rw [if_neg hS0, if_neg (by omega)]
    have hq0 := FP.Core.quantum_below (f := FP.Core.b64) hA0 (show 0 < 1 by decide) e
    have hp : (FP.Core.b64.p : Int) = 53 := rfl
    have hqe : (k : Int) + 3 ≤ FP.Core.quantum FP.Core.b64 A 1 e - e := by
      rcases Int.lt_or_le (FP.Core.quantum FP.Core.b64 A 1 e - e) (k + 3) with hh | hh
      · have := FP.Core.below_mono (b := ((k + 55 : Nat) : Int)) (by rw [hp]; omega) hq0
        rw [below_nat] at this
        omega
      · exact hh
    have hq : FP.Core.quantum FP.Core.b64 (stk A k) 1 (e + k) = FP.Core.quantum FP.Core.b64 A 1 e := by
      refine FP.Core.quantum_eq (by omega) (by decide) (FP.Core.quantum_ge ..) ?_ ?_
      · generalize FP.Core.quantum FP.Core.b64 A 1 e = q at hq0 hqe
        have e1 : q - e + (FP.Core.b64.p : Int) = (((q - (e + k)).toNat + 53 + k : Nat) : Int) := by rw [hp]; omega
        have e2 : q - (e + k) + (FP.Core.b64.p : Int) = (((q - (e + k)).toNat + 53 : Nat) : Int) := by rw [hp]; omega
        rw [e1, below_nat] at hq0
        rw [e2, below_nat, stk_lt (by omega)]
        exact hq0
      · rcases FP.Core.quantum_not_below (f := FP.Core.b64) hA0 (show 0 < 1 by decide) e with h1 | h1
        · exact Or.inl h1
        · refine Or.inr (fun hb => h1 ?_)
          generalize FP.Core.quantum FP.Core.b64 A 1 e = q at hqe hb
          have e1 : q - e + ((FP.Core.b64.p : Int) - 1) = (((q - (e + k)).toNat + 52 + k : Nat) : Int) := by rw [hp]; omega
          have e2 : q - (e + k) + ((FP.Core.b64.p : Int) - 1) = (((q - (e + k)).toNat + 52 : Nat) : Int) := by rw [hp]; omega
          rw [e2, below_nat, stk_lt (by omega)] at hb
          rw [e1, below_nat]
          exact hb
    rw [hq]
    generalize FP.Core.quantum FP.Core.b64 A 1 e = q at hqe
    unfold FP.Core.roundAt FP.Core.unitsNum FP.Core.unitsDen
    rw [show (e + k - q).toNat = 0 by omega, show (e - q).toNat = 0 by omega, show (q - e).toNat = (q - (e + k)).toNat + k by omega]
    simp only [Nat.pow_zero, Nat.mul_one, Nat.one_mul]
    rw [near_stk (by omega)]
theorem enc_fin (s : Bool) (c : Nat) (q : Int) : FP.Core.encode FP.Core.b64 (.fin s c q) = if c < FP.Core.b64.tails then (s.toNat * FP.Core.b64.exps + 0) * FP.Core.b64.tails + c else (s.toNat * FP.Core.b64.exps + ((q + 1074).toNat + 1)) * FP.Core.b64.tails + (c - FP.Core.b64.tails) := by
  unfold FP.Core.encode FP.Core.assemble
  rw [FP.Core.qmin_b64]
  dsimp only
  rw [show q - -1074 = q + 1074 by omega]
theorem enc_inf (s : Bool) : FP.Core.encode FP.Core.b64 (.inf s) = (s.toNat * FP.Core.b64.exps + (FP.Core.b64.exps - 1)) * FP.Core.b64.tails := by
  unfold FP.Core.encode FP.Core.assemble
  dsimp only
  rw [Nat.add_zero]
theorem tl64 : FP.Core.b64.tails = 4503599627370496 := by decide
theorem ex64 : FP.Core.b64.exps = 2048 := by decide
theorem qx64 : FP.Core.b64.qmax = 971 := by decide
theorem rn1 {s b c E T I : Nat} (hc : c < T) (hI : 2 * T ≤ I) : (s * 2048 + 0) * T + c = s * (2048 * T) + min (0 * T + c) I := by
  rw [Nat.min_eq_left (by omega), Nat.add_zero, Nat.zero_mul, Nat.zero_add, Nat.mul_assoc]
theorem rn2 {s c E T I : Nat} (hc : T ≤ c) (hI : E * T + c ≤ I) : (s * 2048 + (E + 1)) * T + (c - T) = s * (2048 * T) + min (E * T + c) I := by
  rw [Nat.min_eq_left hI, Nat.add_mul, Nat.add_mul, Nat.mul_assoc, Nat.one_mul]; omega
theorem rn3 {s T : Nat} : (s * 2048 + (2048 - 1)) * T = s * (2048 * T) + 2047 * T := by
  rw [Nat.add_mul, Nat.mul_assoc]
theorem eT {E e T : Nat} (h : E ≤ e) : E * T ≤ e * T := Nat.mul_le_mul_right _ h
/-- a magnitude rounded off: eight bits below -/
def rndM (e m : Nat) : Nat := if 2047 ≤ e then 2047 * FP.Core.b64.tails else min ((e - 1) * FP.Core.b64.tails + FP.Core.nearest m 256) (2047 * FP.Core.b64.tails)
theorem core_round {s : Bool} {m e : Nat} (h0 : 0 < m) (hm : m < 2 ^ 61) (he : 1 ≤ e) (h : e = 1 ∨ 2 ^ 60 ≤ m) : FP.Core.encode FP.Core.b64 (FP.Core.roundRatio FP.Core.b64 s m 1 ((e : Int) - 1083)) = s.toNat * (2048 * FP.Core.b64.tails) + rndM e m := by
  have hp : (FP.Core.b64.p : Int) = 53 := rfl
  have hq : FP.Core.quantum FP.Core.b64 m 1 ((e : Int) - 1083) = (e : Int) - 1075 := by
    refine FP.Core.quantum_eq h0 (by decide) (by rw [FP.Core.qmin_b64]; omega) ?_ ?_
    · rw [show (e : Int) - 1075 - ((e : Int) - 1083) + (FP.Core.b64.p : Int) = ((61 : Nat) : Int) by rw [hp]; omega, below_nat]
      exact hm
    · rcases h with h | h
      · left; rw [FP.Core.qmin_b64]; omega
      · right
        rw [show (e : Int) - 1075 - ((e : Int) - 1083) + ((FP.Core.b64.p : Int) - 1) = ((60 : Nat) : Int) by rw [hp]; omega, below_nat]
        omega
  unfold FP.Core.roundRatio
  rw [if_neg (by omega), hq]
  unfold FP.Core.roundAt FP.Core.unitsNum FP.Core.unitsDen
  rw [show ((e : Int) - 1083 - ((e : Int) - 1075)).toNat = 0 by omega, show ((e : Int) - 1075 - ((e : Int) - 1083)).toNat = 8 by omega]
  simp only [Nat.pow_zero, Nat.mul_one, Nat.one_mul]
  rw [show (2 : Nat) ^ 8 = 256 from rfl]
  have hT : FP.Core.b64.tails = 2 ^ 52 := FP.Core.tails_b64
  have hP : 2 ^ FP.Core.b64.p = 2 * FP.Core.b64.tails := FP.Core.two_tails FP.Core.good_b64
  have hc1 : FP.Core.nearest m 256 ≤ 2 * FP.Core.b64.tails := FP.Core.nearest_le (by decide) (by rw [hT]; omega)
  have hc2 : 2 ^ 60 ≤ m → FP.Core.b64.tails ≤ FP.Core.nearest m 256 := fun h => FP.Core.nearest_ge (by decide) (by rw [hT]; omega)
  have hT0 := FP.Core.tails_pos FP.Core.b64
  unfold rndM
  generalize FP.Core.nearest m 256 = c at hc1 hc2
  obtain ⟨E, rfl⟩ : ∃ E, e = E + 1 := ⟨e - 1, by omega⟩
  unfold FP.Core.settle FP.Core.bound
  rw [qx64, hP, Nat.add_sub_cancel]
  by_cases c1 : c < 2 * FP.Core.b64.tails
  · rw [if_pos c1]
    by_cases c2 : ((E + 1 : Nat) : Int) - 1075 ≤ 971
    · rw [if_pos c2, enc_fin, if_neg (show ¬ 2047 ≤ E + 1 by omega), show (((E + 1 : Nat) : Int) - 1075 + 1074).toNat = E by omega, ex64]
      have hE := eT (T := FP.Core.b64.tails) (show E ≤ 2045 by omega)
      generalize FP.Core.b64.tails = T at *
      by_cases c3 : c < T
      · have : E = 0 := by
          rcases h with h | h
          · omega
          · have := hc2 h; omega
        subst this
        rw [if_pos c3]
        exact rn1 (b := 0) (E := 0) c3 (by omega)
      · rw [if_neg c3]
        exact rn2 (by omega) (by omega)
    · rw [if_neg c2, if_pos (show 2047 ≤ E + 1 by omega), enc_inf, ex64]
      exact rn3
  · rw [if_neg c1]
    have hc : c = 2 * FP.Core.b64.tails := by omega
    by_cases c2 : ((E + 1 : Nat) : Int) - 1075 + 1 ≤ 971
    · rw [if_pos c2, enc_fin, if_neg (show ¬ 2047 ≤ E + 1 by omega), if_neg (Nat.lt_irrefl _), show (((E + 1 : Nat) : Int) - 1075 + 1 + 1074).toNat = E + 1 by omega, ex64, hc]
      have hE := eT (T := FP.Core.b64.tails) (show E + 1 ≤ 2045 by omega)
      generalize FP.Core.b64.tails = T at *
      have := rn2 (s := s.toNat) (c := T) (E := E + 1) (T := T) (I := 2047 * T) (Nat.le_refl _) (by omega)
      rw [this]
      congr 2
      rw [Nat.add_mul]; omega
    · rw [if_neg c2, enc_inf, ex64, hc]
      by_cases c3 : 2047 ≤ E + 1
      · rw [if_pos c3]; exact rn3
      · have hE := eT (T := FP.Core.b64.tails) (show 2045 ≤ E by omega)
        rw [if_neg c3, Nat.min_eq_right (by omega)]
        exact rn3
