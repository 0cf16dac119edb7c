/-! ===== the law ===== -/
theorem law_body {K : Kn} {sL : Nat} {sx : Nat → Int32} {k : Mem → Nat → Nat → Int32 → Option Int32} {m : Mem} {B : Nat} {s : St} {x3 : Int32} (h : IV K m B s) (g : gds sL x3) (g0 : inb x3 sL = true) (hn : ¬ ((Int32.ofNat sL) - (6 : Int32)) < x3) : ∃ m2 s2, IV K m2 B s2 ∧ f_L_law_18B K sL sx k m B (B + 205) x3 = k m2 B (B + 205) (x3 + (6 : Int32)) := by
  unfold f_L_law_18B
  rw [if_neg hn]
  simp only [gd, g0, if_true]
  by_cases c : ((sx (x3).toNatClampNeg) &&& (63 : Int32)) = 0
  · rw [if_pos c]; exact law_228 h g
  rw [if_neg c]; clear c
  by_cases c : ((sx (x3).toNatClampNeg) &&& (63 : Int32)) = 1
  · rw [if_pos c]; exact law_261 h g
  rw [if_neg c]; clear c
  by_cases c : ((sx (x3).toNatClampNeg) &&& (63 : Int32)) = 2
  · rw [if_pos c]; exact law_334 h g
  rw [if_neg c]; clear c
  by_cases c : ((sx (x3).toNatClampNeg) &&& (63 : Int32)) = 3
  · rw [if_pos c]; exact law_407 h g
  rw [if_neg c]; clear c
  by_cases c : ((sx (x3).toNatClampNeg) &&& (63 : Int32)) = 4
  · rw [if_pos c]; exact law_480 h g
  rw [if_neg c]; clear c
  by_cases c : ((sx (x3).toNatClampNeg) &&& (63 : Int32)) = 5
  · rw [if_pos c]; exact law_503 h g
  rw [if_neg c]; clear c
  by_cases c : ((sx (x3).toNatClampNeg) &&& (63 : Int32)) = 6
  · rw [if_pos c]; exact law_536 h g
  rw [if_neg c]; clear c
  by_cases c : ((sx (x3).toNatClampNeg) &&& (63 : Int32)) = 7
  · rw [if_pos c]; exact law_579 h g
  rw [if_neg c]; clear c
  by_cases c : ((sx (x3).toNatClampNeg) &&& (63 : Int32)) = 8
  · rw [if_pos c]; exact law_622 h g
  rw [if_neg c]; clear c
  by_cases c : ((sx (x3).toNatClampNeg) &&& (63 : Int32)) = 9
  · rw [if_pos c]; exact law_665 h g
  rw [if_neg c]; clear c
  by_cases c : ((sx (x3).toNatClampNeg) &&& (63 : Int32)) = 10
  · rw [if_pos c]; exact law_718 h g
  rw [if_neg c]; clear c
  by_cases c : ((sx (x3).toNatClampNeg) &&& (63 : Int32)) = 11
  · rw [if_pos c]; exact law_751 h g
  rw [if_neg c]; clear c
  by_cases c : ((sx (x3).toNatClampNeg) &&& (63 : Int32)) = 12
  · rw [if_pos c]; exact law_785 h g
  rw [if_neg c]; clear c
  by_cases c : ((sx (x3).toNatClampNeg) &&& (63 : Int32)) = 13
  · rw [if_pos c]; exact law_818 h g
  rw [if_neg c]; clear c
  by_cases c : ((sx (x3).toNatClampNeg) &&& (63 : Int32)) = 14
  · rw [if_pos c]; exact law_862 h g
  rw [if_neg c]; clear c
  by_cases c : ((sx (x3).toNatClampNeg) &&& (63 : Int32)) = 15
  · rw [if_pos c]; exact law_915 h g
  rw [if_neg c]; clear c
  by_cases c : ((sx (x3).toNatClampNeg) &&& (63 : Int32)) = 16
  · rw [if_pos c]; exact law_969 h g
  rw [if_neg c]; clear c
  by_cases c : ((sx (x3).toNatClampNeg) &&& (63 : Int32)) = 17
  · rw [if_pos c]; exact law_1052 h g
  rw [if_neg c]; clear c
  by_cases c : ((sx (x3).toNatClampNeg) &&& (63 : Int32)) = 18
  · rw [if_pos c]; exact law_1085 h g
  rw [if_neg c]; clear c
  by_cases c : ((sx (x3).toNatClampNeg) &&& (63 : Int32)) = 19
  · rw [if_pos c]; exact law_1118 h g
  rw [if_neg c]; clear c
  by_cases c : ((sx (x3).toNatClampNeg) &&& (63 : Int32)) = 20
  · rw [if_pos c]; exact law_1151 h g
  rw [if_neg c]; clear c
  by_cases c : ((sx (x3).toNatClampNeg) &&& (63 : Int32)) = 21
  · rw [if_pos c]; exact law_1184 h g
  rw [if_neg c]; clear c
  by_cases c : ((sx (x3).toNatClampNeg) &&& (63 : Int32)) = 22
  · rw [if_pos c]; exact law_1227 h g
  rw [if_neg c]; clear c
  by_cases c : ((sx (x3).toNatClampNeg) &&& (63 : Int32)) = 23
  · rw [if_pos c]; exact law_1260 h g
  rw [if_neg c]; clear c
  by_cases c : ((sx (x3).toNatClampNeg) &&& (63 : Int32)) = 24
  · rw [if_pos c]; exact law_1283 h g
  rw [if_neg c]; clear c
  by_cases c : ((sx (x3).toNatClampNeg) &&& (63 : Int32)) = 25
  · rw [if_pos c]; exact law_1316 h g
  rw [if_neg c]; clear c
  by_cases c : ((sx (x3).toNatClampNeg) &&& (63 : Int32)) = 26
  · rw [if_pos c]; exact law_1349 h g
  rw [if_neg c]; clear c
  by_cases c : ((sx (x3).toNatClampNeg) &&& (63 : Int32)) = 27
  · rw [if_pos c]; exact law_1392 h g
  rw [if_neg c]; clear c
  by_cases c : ((sx (x3).toNatClampNeg) &&& (63 : Int32)) = 28
  · rw [if_pos c]; exact law_1435 h g
  rw [if_neg c]; clear c
  by_cases c : ((sx (x3).toNatClampNeg) &&& (63 : Int32)) = 29
  · rw [if_pos c]; exact law_1468 h g
  rw [if_neg c]; clear c
  by_cases c : ((sx (x3).toNatClampNeg) &&& (63 : Int32)) = 30
  · rw [if_pos c]; exact law_1501 h g
  rw [if_neg c]; clear c
  by_cases c : ((sx (x3).toNatClampNeg) &&& (63 : Int32)) = 31
  · rw [if_pos c]; exact law_1534 h g
  rw [if_neg c]; clear c
  by_cases c : ((sx (x3).toNatClampNeg) &&& (63 : Int32)) = 32
  · rw [if_pos c]; exact law_1567 h g
  rw [if_neg c]; clear c
  by_cases c : ((sx (x3).toNatClampNeg) &&& (63 : Int32)) = 33
  · rw [if_pos c]; exact law_1600 h g
  rw [if_neg c]; clear c
  by_cases c : ((sx (x3).toNatClampNeg) &&& (63 : Int32)) = 34
  · rw [if_pos c]; exact law_1633 h g
  rw [if_neg c]; clear c
  by_cases c : ((sx (x3).toNatClampNeg) &&& (63 : Int32)) = 35
  · rw [if_pos c]; exact law_1686 h g
  rw [if_neg c]; clear c
  by_cases c : ((sx (x3).toNatClampNeg) &&& (63 : Int32)) = 36
  · rw [if_pos c]; exact law_1709 h g
  rw [if_neg c]; clear c
  by_cases c : ((sx (x3).toNatClampNeg) &&& (63 : Int32)) = 37
  · rw [if_pos c]; exact law_1742 h g
  rw [if_neg c]; clear c
  by_cases c : ((sx (x3).toNatClampNeg) &&& (63 : Int32)) = 38
  · rw [if_pos c]; exact law_1796 h g
  rw [if_neg c]; clear c
  by_cases c : ((sx (x3).toNatClampNeg) &&& (63 : Int32)) = 39
  · rw [if_pos c]; exact law_1859 h g
  rw [if_neg c]; clear c
  by_cases c : ((sx (x3).toNatClampNeg) &&& (63 : Int32)) = 40
  · rw [if_pos c]; exact law_1892 h g
  rw [if_neg c]; clear c
  by_cases c : ((sx (x3).toNatClampNeg) &&& (63 : Int32)) = 41
  · rw [if_pos c]; exact law_1936 h g
  rw [if_neg c]; clear c
  by_cases c : ((sx (x3).toNatClampNeg) &&& (63 : Int32)) = 42
  · rw [if_pos c]; exact law_1999 h g
  rw [if_neg c]; clear c
  by_cases c : ((sx (x3).toNatClampNeg) &&& (63 : Int32)) = 43
  · rw [if_pos c]; exact law_2022 h g
  rw [if_neg c]; clear c
  by_cases c : ((sx (x3).toNatClampNeg) &&& (63 : Int32)) = 44
  · rw [if_pos c]; exact law_2045 h g
  rw [if_neg c]; clear c
  exact ⟨m, s, h, rfl⟩
theorem law_18 {K : Kn} {sL : Nat} {sx : Nat → Int32} {B : Nat} (hL : sL ≤ 3072) : ∀ (f n : Nat) (m : Mem) (s : St), IV K m B s → n ≤ sL → sL + 6 ≤ n + 6 * f → f_L_law_18 K sL sx f m B (B + 205) (nI n) = some 1 := by
  intro f
  induction f with
  | zero => intro n m s h h1 h2; omega
  | succ f ih =>
    intro n m s h h1 h2
    show f_L_law_18B K sL sx (f_L_law_18 K sL sx f) m B (B + 205) (nI n) = some 1
    have e0 : (Int32.ofNat sL - (6 : Int32)) = iZ ((sL : Int) - 6) := by
      rw [show Int32.ofNat sL = nI sL from rfl, ← iZ_nat, show (6 : Int32) = iZ 6 from rfl, iZ_sub]
    have c0 : (Int32.ofNat sL - (6 : Int32)) < nI n ↔ (sL : Int) - 6 < n := by
      rw [fa_lt, e0, iZ_toInt (by omega) (by omega), nI_toInt (by omega)]
    by_cases c : (sL : Int) - 6 < n
    · unfold f_L_law_18B
      rw [if_pos (c0.mpr c)]
    · have hb : ∀ j, j < 6 → inb (nI n + nI j) sL = true := fun j hj => by
        rw [nI_add]; exact inb_n (by omega) (by omega)
      obtain ⟨m2, s2, i2, e2⟩ := law_body (k := f_L_law_18 K sL sx f) (sx := sx) h ⟨hb 1 (by omega), hb 2 (by omega), hb 3 (by omega), hb 4 (by omega), hb 5 (by omega)⟩ (inb_n (by omega) (by omega)) (fun z => c (c0.mp z))
      rw [e2, show nI n + (6 : Int32) = nI (n + 6) from nI_add n 6]
      exact ih (n + 6) m2 s2 i2 (by omega) (by omega)
