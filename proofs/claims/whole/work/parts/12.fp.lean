/-! ===== doubles that are alike ===== -/
theorem b64_tails : FP.Core.b64.tails = 4503599627370496 := by decide
theorem b64_exps : FP.Core.b64.exps = 2048 := by decide
theorem dec_nan {x : UInt64} (h : isNaN64 x = true) : FP.Core.decode FP.Core.b64 x.toNat = .nan := by
  have h1 := isNaN64_iff.mp h
  rw [show (0x7fffffffffffffff : Nat) = 2 ^ 63 - 1 by decide, Nat.and_two_pow_sub_one_eq_mod] at h1
  unfold FP.Core.decode FP.Core.fieldE FP.Core.fieldT
  rw [b64_tails, b64_exps]
  rw [if_pos (by omega), if_neg (by omega)]
theorem dec_alike {x' x : UInt64} (h : alike64 x' x = true) : FP.Core.decode FP.Core.b64 x'.toNat = FP.Core.decode FP.Core.b64 x.toNat := by
  unfold alike64 at h
  rw [Bool.or_eq_true] at h
  rcases h with h | h
  · rw [of_decide_eq_true h]
  · rw [Bool.and_eq_true] at h
    rw [dec_nan h.1, dec_nan h.2]
theorem dadd_alike {r x' y' x y : UInt64} (h : alike64 r (FP.dadd x' y') = true) (hx : alike64 x' x = true) (hy : alike64 y' y = true) : alike64 r (FP.dadd x y) = true := by
  have e : FP.dadd x' y' = FP.dadd x y := by
    show FP.Core.dadd x' y' = FP.Core.dadd x y
    unfold FP.Core.dadd FP.Core.add
    rw [dec_alike hx, dec_alike hy]
  rw [← e]; exact h
theorem dmul_alike {r x' y' x y : UInt64} (h : alike64 r (FP.dmul x' y') = true) (hx : alike64 x' x = true) (hy : alike64 y' y = true) : alike64 r (FP.dmul x y) = true := by
  have e : FP.dmul x' y' = FP.dmul x y := by
    show FP.Core.dmul x' y' = FP.Core.dmul x y
    unfold FP.Core.dmul FP.Core.mul
    rw [dec_alike hx, dec_alike hy]
  rw [← e]; exact h
theorem dcmp_alike {x' y' x y : UInt64} (hx : alike64 x' x = true) (hy : alike64 y' y = true) : FP.dcmp x' y' = FP.dcmp x y := by
  show FP.Core.dcmp x' y' = FP.Core.dcmp x y
  unfold FP.Core.dcmp FP.Core.cmp
  rw [dec_alike hx, dec_alike hy]
theorem alike_num {y' y : UInt64} (h : alike64 y' y = true) (hn : isNaN64 y = false) : y' = y := by
  unfold alike64 at h
  rw [hn, Bool.and_false, Bool.or_false] at h
  exact of_decide_eq_true h
