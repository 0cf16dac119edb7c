/-! ===== the class's blocks: append, begin, write, close ===== -/
def akp (a : Nat) (m m' : Mem) : Prop := eqOn (off a 2) m m' ∧ szm m' = szm m ∧ (∀ k, gR m' a k = gR m a k) ∧ (∀ k, k ≠ 1 → gI m' a k = gI m a k)
theorem akp.refl (a : Nat) (m : Mem) : akp a m m := ⟨eqOn.refl m, rfl, fun _ => rfl, fun _ _ => rfl⟩
theorem akp.trans {a : Nat} {m m1 m2 : Mem} (h : akp a m m1) (h' : akp a m1 m2) : akp a m m2 := ⟨h.1.trans h'.1, h'.2.1.trans h.2.1, fun k => (h'.2.2.1 k).trans (h.2.2.1 k), fun k hk => (h'.2.2.2 k hk).trans (h.2.2.2 k hk)⟩
theorem off2 {a q : Nat} (h : off a 2 q) : q ≠ a ∧ q ≠ a + 1 := by unfold off at h; omega
theorem akp_ap {m : Mem} {a i : Nat} {x y : Int32} : akp a m (sI (sI m (a + 1) i x) a 1 y) := by
  refine ⟨fun q hq k => ?_, rfl, fun _ => rfl, fun k hk => ?_⟩
  · have := off2 hq
    exact ⟨by rw [gI_sI_n (Or.inl this.1), gI_sI_n (Or.inl this.2)], rfl, rfl⟩
  · rw [gI_sI_n (Or.inr hk), gI_sI_n (Or.inl (by omega))]
theorem appL {K : Kn} {a N s : Nat} (hK : K (a + 1) = some (.inr (0, 200))) (hN : N < 4294967296) (hs : s + 4 ≤ 200) : ∀ (f j : Nat) (m : Mem), j ≤ 4 → 4 - j < f → gR m a 0 = some (a + 1) → gI m a 1 = nI (s + j) →
    ∃ m', f_X0_append_3 K a (nI N) f m (iZ (24 - 8 * (j : Int))) = some m' ∧ gI m' a 1 = nI (s + 4) ∧ (∀ i, j ≤ i → i < 4 → gI m' (a + 1) (s + i) = nI (N / 2 ^ (24 - 8 * i) % 256)) ∧ (∀ i, i < s + j ∨ s + 4 ≤ i → gI m' (a + 1) i = gI m (a + 1) i) ∧ akp a m m'
  | 0, _, _, _, h, _, _ => absurd h (Nat.not_lt_zero _)
  | f + 1, j, m, hj, hf, h0, h1 => by
    have unf : f_X0_append_3 K a (nI N) (f + 1) m (iZ (24 - 8 * (j : Int))) = f_X0_append_3B K a (nI N) (f_X0_append_3 K a (nI N) f) m (iZ (24 - 8 * (j : Int))) := rfl
    rw [unf]
    unfold f_X0_append_3B
    have c0 : iZ (24 - 8 * (j : Int)) < 0 ↔ 24 - 8 * (j : Int) < 0 := by rw [fa_lt, iZ_toInt (by omega) (by omega)]; rfl
    by_cases cj : j = 4
    · subst cj
      rw [if_pos (c0.mpr (by omega))]
      exact ⟨m, rfl, h1, fun i g1 g2 => by omega, fun _ _ => rfl, akp.refl a m⟩
    · rw [if_neg (fun z => by have := c0.mp z; omega), h1, if_neg (show ¬ (200 : Int32) ≤ nI (s + j) from fun z => by rw [show (200 : Int32) = nI 200 from rfl, nI_leI (by omega) (by omega)] at z; omega), ldA_n h0 hK, bind_e, asI_n (lenK_of hK) (by omega) (by omega), bind_e]
      simp only [bd_e]
      rw [show iZ (24 - 8 * (j : Int)) = nI (24 - 8 * j) by rw [← iZ_nat]; congr 1; omega, ius hN _ (by omega), pk_andN (Nat.lt_of_le_of_lt (Nat.div_le_self _ _) hN) 8 (by decide)]
      rw [show nI (24 - 8 * j) + (-8 : Int32) = iZ (24 - 8 * ((j + 1 : Nat) : Int)) by rw [← iZ_nat, show (-8 : Int32) = iZ (-8) from rfl, iZ_add]; congr 1; omega]
      rw [gI_sI_n (Or.inl (by omega)), h1, nI_1]
      obtain ⟨m', e1, e2, e3, e4, e5⟩ := appL hK hN hs f (j + 1) (sI (sI m (a + 1) (s + j) (nI (N / 2 ^ (24 - 8 * j) % 2 ^ 8))) a 1 (nI (s + j + 1))) (by omega) (by omega) h0 gI_sI_s
      refine ⟨m', e1, e2, fun i g1 g2 => ?_, fun i hi => ?_, akp_ap.trans e5⟩
      · by_cases ci : i = j
        · subst ci
          rw [e4 _ (by omega), gI_sI_n (Or.inl (by omega)), gI_sI_s]
        · exact e3 i (by omega) g2
      · rw [e4 i (by omega), gI_sI_n (Or.inl (by omega)), gI_sI_n (Or.inr (by omega))]
theorem append_ok {K : Kn} {m : Mem} {a N s : Nat} (hK : K (a + 1) = some (.inr (0, 200))) (hN : N < 4294967296) (hs : s + 4 ≤ 200) (h0 : gR m a 0 = some (a + 1)) (h1 : gI m a 1 = nI s) :
    ∃ m', F_X0_append K m a (nI N) = some m' ∧ gI m' a 1 = nI (s + 4) ∧ (∀ i, i < 4 → gI m' (a + 1) (s + i) = nI (N / 2 ^ (24 - 8 * i) % 256)) ∧ (∀ i, i < s ∨ s + 4 ≤ i → gI m' (a + 1) i = gI m (a + 1) i) ∧ akp a m m' := by
  obtain ⟨m', e1, e2, e3, e4, e5⟩ := appL hK hN hs FU 0 m (by omega) (by rw [FU_e]; omega) h0 h1
  exact ⟨m', e1, e2, fun i hi => e3 i (by omega) hi, fun i hi => e4 i (by omega), e5⟩
theorem begin_bk {K : Kn} {m : Mem} {a t : Nat} {v : Int64} (hK0 : K a = some (.inl 0)) (hK : K (a + 1) = some (.inr (0, 200))) (h0 : gR m a 0 = some (a + 1)) (ht : t ≤ 2000000000) :
    ∃ m', F_X0_begin K m a (nI t) v = some m' ∧ bkR K m' a (nwB t v) ∧ eqOn (off a 2) m m' ∧ szm m' = szm m := by
  unfold F_X0_begin f_X0_begin
  simp only [bd_e]
  have hv := uN_lt v
  have k0 : akp a m (sI m a 1 0) := ⟨fun q hq k => ⟨gI_sI_n (Or.inl (off2 hq).1), rfl, rfl⟩, rfl, fun _ => rfl, fun k hk => gI_sI_n (Or.inr hk)⟩
  obtain ⟨m1, e1, n1, a1, b1, k1⟩ := append_ok (N := t) (s := 0) (m := sI m a 1 0) hK (by omega) (by omega) h0 gI_sI_s
  rw [e1, bind_e]
  have K1 := k0.trans k1
  rw [show (32 : Int32) = nI 32 from rfl, lushr_N v (by omega), toI_lN]
  obtain ⟨m2, e2, n2, a2, b2, k2⟩ := append_ok (N := uN v / 2 ^ 32) (s := 4) (m := m1) hK (by omega) (by omega) ((K1.2.2.1 0).trans h0) n1
  rw [e2, bind_e]
  have K2 := K1.trans k2
  rw [show v.toInt32 = nI (uN v % 2 ^ 32) by rw [← nI_mod, ← toI_lN, lN_uN]]
  obtain ⟨m3, e3, n3, a3, b3, k3⟩ := append_ok (N := uN v % 2 ^ 32) (s := 8) (m := m2) hK (by omega) (by omega) ((K2.2.2.1 0).trans h0) n2
  rw [e3, bind_e]
  have K3 := K2.trans k3
  have h03 : gR m3 a 0 = some (a + 1) := (K3.2.2.1 0).trans h0
  rw [ldA_n h03 hK, bind_e, show (12 : Int32) = nI 12 from rfl, asI_n (lenK_of hK) (by omega) (by omega), bind_e, ldA_n (b := a + 1) (by exact h03) hK, bind_e, show (13 : Int32) = nI 13 from rfl, asI_n (lenK_of hK) (by omega) (by omega), bind_e]
  refine ⟨_, rfl, ⟨h03, hK0, hK, fun i hi => ?_, ?_, ?_, ?_, ?_, ?_⟩, K3.1.trans (fun q hq k => ?_), K3.2.1⟩
  · have hi : i < 14 := hi
    simp only [gI_sI_n (Or.inl (show a + 1 ≠ a by omega))]
    show _ = nI (hdF t v i)
    rcases (show i = 0 ∨ i = 1 ∨ i = 2 ∨ i = 3 ∨ i = 4 ∨ i = 5 ∨ i = 6 ∨ i = 7 ∨ i = 8 ∨ i = 9 ∨ i = 10 ∨ i = 11 ∨ i = 12 ∨ i = 13 by omega) with rfl | rfl | rfl | rfl | rfl | rfl | rfl | rfl | rfl | rfl | rfl | rfl | rfl | rfl
    · rw [gI_sI_n (Or.inr (by decide)), gI_sI_n (Or.inr (by decide)), b3 0 (by omega), b2 0 (by omega), a1 0 (by omega)]; rfl
    · rw [gI_sI_n (Or.inr (by decide)), gI_sI_n (Or.inr (by decide)), b3 1 (by omega), b2 1 (by omega), a1 1 (by omega)]; rfl
    · rw [gI_sI_n (Or.inr (by decide)), gI_sI_n (Or.inr (by decide)), b3 2 (by omega), b2 2 (by omega), a1 2 (by omega)]; rfl
    · rw [gI_sI_n (Or.inr (by decide)), gI_sI_n (Or.inr (by decide)), b3 3 (by omega), b2 3 (by omega), a1 3 (by omega)]; rfl
    · rw [gI_sI_n (Or.inr (by decide)), gI_sI_n (Or.inr (by decide)), b3 4 (by omega), a2 0 (by omega)]; simp [hdF]; congr 1; omega
    · rw [gI_sI_n (Or.inr (by decide)), gI_sI_n (Or.inr (by decide)), b3 5 (by omega), a2 1 (by omega)]; simp [hdF]; congr 1; omega
    · rw [gI_sI_n (Or.inr (by decide)), gI_sI_n (Or.inr (by decide)), b3 6 (by omega), a2 2 (by omega)]; simp [hdF]; congr 1; omega
    · rw [gI_sI_n (Or.inr (by decide)), gI_sI_n (Or.inr (by decide)), b3 7 (by omega), a2 3 (by omega)]; simp [hdF]
    · rw [gI_sI_n (Or.inr (by decide)), gI_sI_n (Or.inr (by decide)), a3 0 (by omega)]; simp [hdF]; congr 1; omega
    · rw [gI_sI_n (Or.inr (by decide)), gI_sI_n (Or.inr (by decide)), a3 1 (by omega)]; simp [hdF]; congr 1; omega
    · rw [gI_sI_n (Or.inr (by decide)), gI_sI_n (Or.inr (by decide)), a3 2 (by omega)]; simp [hdF]; congr 1; omega
    · rw [gI_sI_n (Or.inr (by decide)), gI_sI_n (Or.inr (by decide)), a3 3 (by omega)]; simp [hdF]
    · rw [gI_sI_n (Or.inr (by decide)), gI_sI_s]; rfl
    · rw [gI_sI_s]; rfl
  · simp [gI_sIa]; rfl
  · simp [gI_sIa]; rfl
  · simp [gI_sIa]; rfl
  · simp [gI_sIa]; rfl
  · rw [opn_rs rfl (nwB_opn ht v)]
    simp [gI_sIa]
    exact ⟨rfl, rfl, rfl⟩
  · have := off2 hq
    exact ⟨by simp only [gI_sI_n (Or.inl this.1), gI_sI_n (Or.inl this.2)], rfl, rfl⟩
