/-! ===== leading zeros, from below ===== -/
def nllP (N : Nat) (o : Option Int32) : Prop := ∃ r : Nat, o = some (nI r) ∧ r ≤ 31 ∧ 2 ^ (31 - r) ≤ N
theorem nll_73 {N i n : Nat} (hi : i < 4) (h0 : 1 ≤ i) (hn : n ≤ 31) (hn1 : 1 ≤ n) (h : i * 2 ^ (31 - n) ≤ N) : nllP N (f_J6_numberOfLeadingZeros_0f7a4_73 (nI i) (nI n)) := by
  unfold f_J6_numberOfLeadingZeros_0f7a4_73
  have e : iushr (nI i) (1 : Int32) = nI (i / 2) := ius (by omega) 1 (by omega)
  rw [e, pk_sub (by omega)]
  refine ⟨n - i / 2, rfl, by omega, Nat.le_trans ?_ h⟩
  have : 2 ^ (i / 2) ≤ i := by
    rcases (show i = 1 ∨ i = 2 ∨ i = 3 by omega) with rfl | rfl | rfl <;> decide
  calc 2 ^ (31 - (n - i / 2)) = 2 ^ (i / 2) * 2 ^ (31 - n) := by rw [← Nat.pow_add]; congr 1; omega
    _ ≤ i * 2 ^ (31 - n) := Nat.mul_le_mul_right _ this
theorem nll_sh {N i n k : Nat} (hk : k ≤ n) (hn : n ≤ 31) (h : i * 2 ^ (31 - n) ≤ N) : i / 2 ^ k * 2 ^ (31 - (n - k)) ≤ N := by
  refine Nat.le_trans ?_ h
  rw [show 31 - (n - k) = k + (31 - n) by omega, Nat.pow_add, ← Nat.mul_assoc]
  exact Nat.mul_le_mul_right _ (Nat.div_mul_le_self i (2 ^ k))
theorem nll_61 {N i n : Nat} (hi : i < 16) (h0 : 1 ≤ i) (hn : n ≤ 31) (hn1 : 3 ≤ n) (h : i * 2 ^ (31 - n) ≤ N) : nllP N (f_J6_numberOfLeadingZeros_0f7a4_61 (nI i) (nI n)) := by
  unfold f_J6_numberOfLeadingZeros_0f7a4_61
  have hc : nI i < (4 : Int32) ↔ i < 4 := nI_ltI (b := 4) (by omega) (by omega)
  by_cases c : i < 4
  · rw [if_pos (hc.mpr c)]
    exact nll_73 c h0 hn (by omega) h
  · rw [if_neg (fun z => c (hc.mp z))]
    have e : iushr (nI i) (2 : Int32) = nI (i / 2 ^ 2) := ius (by omega) 2 (by omega)
    have e2 : nI n + (-2 : Int32) = nI (n - 2) := nI_m (b := 2) (by omega)
    simp only [bd, e, e2]
    exact nll_73 (by omega) (by omega) (by omega) (by omega) (nll_sh (by omega) hn h)
theorem nll_48 {N i n : Nat} (hi : i < 256) (h0 : 1 ≤ i) (hn : n ≤ 31) (hn1 : 7 ≤ n) (h : i * 2 ^ (31 - n) ≤ N) : nllP N (f_J6_numberOfLeadingZeros_0f7a4_48 (nI i) (nI n)) := by
  unfold f_J6_numberOfLeadingZeros_0f7a4_48
  have hc : nI i < (16 : Int32) ↔ i < 16 := nI_ltI (b := 16) (by omega) (by omega)
  by_cases c : i < 16
  · rw [if_pos (hc.mpr c)]
    exact nll_61 c h0 hn (by omega) h
  · rw [if_neg (fun z => c (hc.mp z))]
    have e : iushr (nI i) (4 : Int32) = nI (i / 2 ^ 4) := ius (by omega) 4 (by omega)
    have e2 : nI n + (-4 : Int32) = nI (n - 4) := nI_m (b := 4) (by omega)
    simp only [bd, e, e2]
    exact nll_61 (by omega) (by omega) (by omega) (by omega) (nll_sh (by omega) hn h)
theorem nll_33 {N i n : Nat} (hi : i < 65536) (h0 : 1 ≤ i) (hn : n ≤ 31) (hn1 : 15 ≤ n) (h : i * 2 ^ (31 - n) ≤ N) : nllP N (f_J6_numberOfLeadingZeros_0f7a4_33 (nI i) (nI n)) := by
  unfold f_J6_numberOfLeadingZeros_0f7a4_33
  have hc : nI i < (256 : Int32) ↔ i < 256 := nI_ltI (b := 256) (by omega) (by omega)
  by_cases c : i < 256
  · rw [if_pos (hc.mpr c)]
    exact nll_48 c h0 hn (by omega) h
  · rw [if_neg (fun z => c (hc.mp z))]
    have e : iushr (nI i) (8 : Int32) = nI (i / 2 ^ 8) := ius (by omega) 8 (by omega)
    have e2 : nI n + (-8 : Int32) = nI (n - 8) := nI_m (b := 8) (by omega)
    simp only [bd, e, e2]
    exact nll_48 (by omega) (by omega) (by omega) (by omega) (nll_sh (by omega) hn h)
theorem nll32 {N : Nat} (hN : N < 4294967296) (h0 : 1 ≤ N) : nllP N (F_J6_numberOfLeadingZeros_0f7a4 (nI N)) := by
  unfold F_J6_numberOfLeadingZeros_0f7a4 f_J6_numberOfLeadingZeros_0f7a4
  by_cases c : (0 : Int32) < nI N
  · rw [if_pos c]
    have hN2 : N < 2147483648 := by
      rcases Nat.lt_or_ge N 2147483648 with h | h
      · exact h
      · have := nI_neg h hN
        have h3 := (fa_lt _ _).mp c
        rw [this] at h3
        simp at h3
        omega
    have hc : nI N < (65536 : Int32) ↔ N < 65536 := nI_ltI (b := 65536) (by omega) (by omega)
    by_cases c2 : N < 65536
    · rw [if_pos (hc.mpr c2)]
      exact nll_33 (n := 31) c2 h0 (by omega) (by omega) (by simp)
    · rw [if_neg (fun z => c2 (hc.mp z))]
      have e : iushr (nI N) (16 : Int32) = nI (N / 2 ^ 16) := ius (by omega) 16 (by omega)
      simp only [bd, e]
      exact nll_33 (n := 15) (by omega) (by omega) (by omega) (by omega) (nll_sh (n := 31) (k := 16) (by omega) (by omega) (by simp))
  · rw [if_neg c]
    by_cases c2 : nI N = 0
    · have := (nI_zero (by omega)).mp c2
      omega
    · rw [if_neg c2]
      refine ⟨0, rfl, by omega, ?_⟩
      rcases Nat.lt_or_ge N 2147483648 with h | h
      · exact absurd ((nI_ltI (a := 0) (by omega) h).mpr (by omega)) c
      · exact h
theorem lz_low {n : Nat} (h : n < 2 ^ 64) (h0 : 0 < n) : lz (lN n) ≤ 63 ∧ 2 ^ (63 - lz (lN n)) ≤ n := by
  have key : ∃ r, F_J13_numberOfLeadingZeros_95d88 (lN n) = some (nI r) ∧ r ≤ 63 ∧ 2 ^ (63 - r) ≤ n := by
    unfold F_J13_numberOfLeadingZeros_95d88 f_J13_numberOfLeadingZeros_95d88
    have e : (lushr (lN n) (32 : Int32)).toInt32 = nI (n / 2 ^ 32) := by rw [show lushr (lN n) (32 : Int32) = lN (n / 2 ^ 32) from lus h 32 (by omega), lN_i]
    have e2 : (lN n).toInt32 = nI (n % 2 ^ 32) := by rw [lN_i]; exact nI_mod
    simp only [bd, e, e2]
    by_cases c : nI (n / 2 ^ 32) = 0
    · rw [if_pos c]
      have c' := (nI_zero (by omega)).mp c
      obtain ⟨r, h1, h2, h3⟩ := nll32 (N := n % 2 ^ 32) (Nat.mod_lt _ (by decide)) (by omega)
      rw [h1]
      refine ⟨32 + r, ?_, by omega, ?_⟩
      · show some ((32 : Int32) + nI r) = _
        rw [show (32 : Int32) = nI 32 from rfl, nI_add]
      · rw [show 63 - (32 + r) = 31 - r by omega]; omega
    · rw [if_neg c]
      have c' : n / 2 ^ 32 ≠ 0 := fun z => c ((nI_zero (by omega)).mpr z)
      obtain ⟨r, h1, h2, h3⟩ := nll32 (N := n / 2 ^ 32) (by omega) (by omega)
      rw [h1]
      refine ⟨r, rfl, by omega, ?_⟩
      rw [show 63 - r = 31 - r + 32 by omega, Nat.pow_add]
      exact (Nat.le_div_iff_mul_le (by decide)).mp h3
  obtain ⟨r, h1, h2, h3⟩ := key
  have e : lz (lN n) = r := by
    unfold lz; rw [h1]; exact nI_clamp (by omega)
  rw [e]; exact ⟨h2, h3⟩
