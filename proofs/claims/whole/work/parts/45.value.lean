/-! ===== the reader: second, value ===== -/
def lZ (z : Int) : Int64 := Int64.ofInt z
theorem lZ_nat (n : Nat) : lZ (n : Int) = lN n := by
  apply Int64.toBitVec_inj.mp
  show BitVec.ofInt 64 n = BitVec.ofNat 64 n
  rw [BitVec.ofInt_natCast]
theorem lZ_sub (a b : Int) : lZ a - lZ b = lZ (a - b) := (Int64.ofInt_sub a b).symm
theorem lZ_add (a b : Int) : lZ a + lZ b = lZ (a + b) := by
  unfold lZ
  rw [Int64.ofInt_add]
theorem lZ_toInt {z : Int} (h1 : -9223372036854775808 ≤ z) (h2 : z < 9223372036854775808) : (lZ z).toInt = z := by
  unfold lZ
  rw [Int64.toInt_ofInt_of_le (by omega) (by omega)]
/-- a SECOND as the class takes it -/
def sgnC (k v : Nat) : Int := if k = 0 then 0 else if v ≤ 2 ^ (cwid k - 1) then v else (v : Int) - (2 ^ cwid k : Nat)
theorem cwid_b {k : Nat} (h : k ≤ 4) : (k = 0 ∧ cwid k = 0) ∨ (7 ≤ cwid k ∧ cwid k ≤ 32) := by
  rcases (show k = 0 ∨ k = 1 ∨ k = 2 ∨ k = 3 ∨ k = 4 by omega) with rfl | rfl | rfl | rfl | rfl <;> simp [cwid]
theorem sgnC_ne {k v : Nat} (h : k ≤ 4) (hv : v < 2 ^ cwid k) : (sgnC k v = sgnA k v) ∨ (sgnC k v = 2147483648 ∧ sgnA k v = -2147483648) := by
  rcases (show k = 0 ∨ k = 1 ∨ k = 2 ∨ k = 3 ∨ k = 4 by omega) with rfl | rfl | rfl | rfl | rfl <;> simp only [cwid, sgnC, sgnA] at hv ⊢ <;> simp at hv ⊢ <;> (repeat (first | omega | split))
theorem sgnC_b {k v : Nat} (h : k ≤ 4) (hv : v < 2 ^ cwid k) : -2147483648 ≤ sgnC k v ∧ sgnC k v ≤ 2147483648 := by
  rcases (show k = 0 ∨ k = 1 ∨ k = 2 ∨ k = 3 ∨ k = 4 by omega) with rfl | rfl | rfl | rfl | rfl <;> simp only [cwid, sgnC] at hv ⊢ <;> simp at hv ⊢ <;> (repeat (first | omega | split))
theorem sgn_if {w v : Nat} (h1 : 1 ≤ w) (h2 : w ≤ 32) (hv : v < 2 ^ w) {m : Mem} : (if (lg_cmp (lN v) (lshl (1 : Int64) (nI w - (1 : Int32)))) ≤ 0 then some (lN v, m) else some (lN v - (lshl (1 : Int64) (nI w)), m)) = some (lZ (if v ≤ 2 ^ (w - 1) then (v : Int) else (v : Int) - (2 ^ w : Nat)), m) := by
  have p1 : 2 ^ w ≤ 2 ^ 32 := Nat.pow_le_pow_right (by decide) h2
  have p2 : 2 ^ (w - 1) ≤ 2 ^ 32 := Nat.pow_le_pow_right (by decide) (by omega)
  have e1 : lshl (1 : Int64) (nI w - (1 : Int32)) = lN (2 ^ (w - 1)) := by
    unfold lshl
    rw [show (1 : Int32) = nI 1 from rfl, pk_sub h1, show (1 : Int64) = lN 1 from rfl, wb_shl 1 (by omega), Nat.one_mul]
  have e2 : lshl (1 : Int64) (nI w) = lN (2 ^ w) := by
    unfold lshl
    rw [show (1 : Int64) = lN 1 from rfl, wb_shl 1 (by omega), Nat.one_mul]
  rw [e1, e2]
  have e3 : lg_cmp (lN v) (lN (2 ^ (w - 1))) ≤ 0 ↔ v ≤ 2 ^ (w - 1) := by rw [lg_cmp_le, fa_le64, pf_lI (by omega), pf_lI (by omega)]; omega
  by_cases c : v ≤ 2 ^ (w - 1)
  · rw [if_pos (e3.mpr c), if_pos c, lZ_nat]
  · rw [if_neg (fun z => c (e3.mp z)), if_neg c, ← lZ_nat, ← lZ_nat, lZ_sub]
theorem second_e {K : Kn} {m m' : Mem} {r k v : Nat} (hk : k ≤ 4) (hv : v < 2 ^ cwid k) (h : F_X6_takeBits K m r (nI (cwid k)) = some (lN v, m')) (h0 : k = 0 → m' = m) : F_X6_takeSecond K m r (nI k) = some (lZ (sgnC k v), m') := by
  unfold F_X6_takeSecond f_X6_takeSecond
  rw [stA2 hk, bind_e]
  rcases cwid_b hk with ⟨rfl, h2⟩ | h2
  · rw [h0 rfl]; rfl
  · rw [if_neg (fun z => by rw [show (0 : Int32) = nI 0 from rfl, nI_eq (by omega) (by omega)] at z; omega), h, bind_e]
    simp only [bd_e]
    rw [sgn_if (by omega) (by omega) hv]
    have : k ≠ 0 := fun z => by subst z; simp [cwid] at h2
    unfold sgnC
    rw [if_neg this]
theorem takeSecond_ok {K : Kn} {m : Mem} {r β : Nat} {by_ : Nat → Nat} {p L k : Nat} {s : Cs} (h : reR K m r β by_ (112 + p) (112 + L) s) (hk : k ≤ 4) :
    (p + cwid k ≤ L → F_X6_takeSecond K m r (nI k) = some (lZ (sgnC k (num (fb by_ L) p (cwid k))), sI m r 8 (nI (112 + (p + cwid k)))) ∧ reR K (sI m r 8 (nI (112 + (p + cwid k)))) r β by_ (112 + (p + cwid k)) (112 + L) s) ∧
    (L < p + cwid k → ∃ v m', F_X6_takeSecond K m r (nI k) = some (v, m') ∧ enR K m' r β by_ (112 + L) ∧ kpR r m m') := by
  have hw : cwid k ≤ 64 := by rcases cwid_b hk with h | h <;> omega
  refine ⟨fun z => ?_, fun z => ?_⟩
  · obtain ⟨e, hr⟩ := re_take h hw (show 112 + p + cwid k ≤ 112 + L by omega)
    rw [Nat.add_assoc] at e hr
    refine ⟨?_, hr⟩
    rw [num_fb (by omega)] at e
    refine second_e hk (num_lt (fb_lt by_ L) _ _) e (fun h0 => ?_)
    subst h0
    exact sI_id h.1.2.2.2.1
  · obtain ⟨e, hr⟩ := re_end h hw (show 112 + L < 112 + p + cwid k by omega)
    exact ⟨_, _, second_e hk (Nat.two_pow_pos _) (show _ = some (lN 0, _) from e) (fun h0 => by subst h0; simp [cwid] at z; exact absurd h.1.2.2.2.2.2.2.1 (by omega)), hr, kpR_sI (by omega)⟩
theorem en_second {K : Kn} {m : Mem} {r β : Nat} {by_ : Nat → Nat} {lim k : Nat} (h : enR K m r β by_ lim) (hk : k ≤ 4) : ∃ v m', F_X6_takeSecond K m r (nI k) = some (v, m') ∧ enR K m' r β by_ lim ∧ kpR r m m' := by
  have hw : cwid k ≤ 64 := by rcases cwid_b hk with h | h <;> omega
  by_cases h0 : k = 0
  · subst h0
    exact ⟨0, m, rfl, h, kpR.refl _ _⟩
  · obtain ⟨v, m', e1, e2, e3, e4, -⟩ := en_tk h hw
    exact ⟨_, _, second_e hk e2 e1 (fun z => absurd z h0), e3, e4⟩
