/-! ===== a point written ===== -/
def wst (K : Kn) (m : Mem) (a p : Nat) (g : Nat → Nat) : Prop := K (a + 1) = some (.inr (0, 200)) ∧ gR m a 0 = some (a + 1) ∧ gI m a 2 = nI p ∧ hbR m (a + 1) g p
theorem mod_bit {N w j : Nat} (h : j < w) : N % 2 ^ w / 2 ^ j % 2 = N / 2 ^ j % 2 := by
  have e : 2 ^ w = 2 ^ j * (2 * 2 ^ (w - 1 - j)) := by rw [← Nat.pow_succ', ← Nat.pow_add]; congr 1; omega
  rw [e, Nat.mod_mul_right_div_self, Nat.mod_mul_right_mod]
theorem ext_mod {g : Nat → Nat} {p w N q : Nat} (h : q < p + w) : ext g p w N q = ext g p w (N % 2 ^ w) q := by
  unfold ext
  split
  · rfl
  · rw [mod_bit (by omega)]
theorem wrCh {K : Kn} {m : Mem} {a p w v : Nat} {x : Int64} {g : Nat → Nat} (h : wst K m a p g) (hx : uN x % 2 ^ w = v) (hw : w ≤ 64) (hp : p + w ≤ 1488) : ∃ m', F_X0_writeBits K m a x (nI w) = some m' ∧ wst K m' a (p + w) (ext g p w v) ∧ wkp a m m' := by
  obtain ⟨h1, h2, h3, h4⟩ := h
  obtain ⟨m', e1, e2, e3, e4⟩ := writeBits_ok (x := x) h1 h2 h3 h4 hw hp
  refine ⟨m', e1, ⟨h1, (e4.2.2.1 0).trans h2, e2, e3.congr (fun q hq => ?_)⟩, e4⟩
  rw [ext_mod hq, hx]
theorem uN_nI {n : Nat} (h : n < 2147483648) : uN (nI n).toInt64 = n := by rw [nI_long h, uN_lN (by omega)]
theorem uN_lZ (z : Int) : uN (lZ z) = (z % 18446744073709551616).toNat := by
  show (BitVec.ofInt 64 z).toNat = _
  rw [BitVec.toNat_ofInt]; rfl
theorem iZ_long {z : Int} (h1 : -2147483648 ≤ z) (h2 : z < 2147483648) : (iZ z).toInt64 = lZ z := by
  apply Int64.toInt_inj.mp
  rw [Int32.toInt_toInt64, iZ_toInt h1 h2, lZ_toInt (by omega) (by omega)]
theorem uN_low {z : Int} {k : Nat} (hk : k ≤ 4) (h1 : -2147483648 ≤ z) (h2 : z < 2147483648) : uN (iZ z).toInt64 % 2 ^ cwid k = lowA k z := by
  rw [iZ_long h1 h2, uN_lZ]
  unfold lowA
  rcases (show k = 0 ∨ k = 1 ∨ k = 2 ∨ k = 3 ∨ k = 4 by omega) with rfl | rfl | rfl | rfl | rfl <;> simp only [cwid] <;> simp <;> omega
theorem openBytes_ok {n : Nat} (h : n < 1000000) : F_X0_openBytes (nI n) = some (nI (14 + (n + 7) / 8)) := by
  unfold F_X0_openBytes f_X0_openBytes
  rw [show (7 : Int32) = nI 7 from rfl, show (8 : Int32) = nI 8 from rfl, show (14 : Int32) = nI 14 from rfl, nI_add, pk_div (by omega) (by omega) (by omega), nI_add]
theorem sealedBytes_ok {n : Nat} (h : n < 1000000) : F_X0_sealedBytes (nI n) = some (nI (14 + (n + 7) / 8 + 1)) := by
  unfold F_X0_sealedBytes f_X0_sealedBytes
  rw [openBytes_ok h, bind_e, nI_1]
/-- a block behind a point written -/
def wrP (a n t p' : Nat) (m m' : Mem) : Prop := gI m' a 1 = nI (14 + (p' + 7) / 8) ∧ gI m' a 2 = nI p' ∧ gI m' a 3 = nI (n + 1) ∧ gI m' a 5 = nI t ∧ (∀ k, k ≠ 1 → k ≠ 2 → k ≠ 3 → k ≠ 5 → gI m' a k = gI m a k) ∧ (∀ k, gR m' a k = gR m a k) ∧ eqOn (off a 2) m m' ∧ szm m' = szm m ∧ (∀ i, i < 12 → gI m' (a + 1) i = gI m (a + 1) i) ∧ gI m' (a + 1) 12 = nI ((n + 1) / 256) ∧ gI m' (a + 1) 13 = nI ((n + 1) % 256)
theorem write_155 {K : Kn} {m0 m : Mem} {a c p n t : Nat} {g : Nat → Nat} (h : wst K m a p g) (hk : wkp a m0 m) (hn : gI m0 a 3 = nI n) (hn2 : n < 65535) (hp : p ≤ 1488) (hc : off a 2 c) (ht : gI m0 c 5 = nI t) : ∃ m', f_X0_write_155 K a c m = some m' ∧ hbR m' (a + 1) g p ∧ wrP a n t p m0 m' := by
  obtain ⟨h1, h2, h3, h4⟩ := h
  obtain ⟨k1, k2, k3, k4, k5⟩ := hk
  unfold f_X0_write_155
  simp only [bd_e]
  have hca : c ≠ a ∧ c ≠ a + 1 := by unfold off at hc; omega
  rw [k4 3 (by decide), hn, nI_1]
  rw [ldA_n (b := a + 1) (by exact h2) h1, bind_e, show (12 : Int32) = nI 12 from rfl, asI_n (lenK_of h1) (by omega) (by omega), bind_e]
  rw [ldA_n (b := a + 1) (by exact h2) h1, bind_e, show (13 : Int32) = nI 13 from rfl, asI_n (lenK_of h1) (by omega) (by omega), bind_e]
  rw [gI_sI_s]
  rw [show gI (sI (sI m a 3 (nI (n + 1))) (a + 1) 12 (nI (n + 1) >>> ((8 : Int32) &&& 31))) a 3 = nI (n + 1) by rw [gI_sI_n (Or.inl (by omega)), gI_sI_s]]
  rw [show nI (n + 1) >>> ((8 : Int32) &&& 31) = nI ((n + 1) / 2 ^ 8) from pk_shrN (by omega) _ 8 (by decide), pk_andN (by omega) 8 (by decide)]
  have e5 : gI (sI (sI (sI m a 3 (nI (n + 1))) (a + 1) 12 (nI ((n + 1) / 2 ^ 8))) (a + 1) 13 (nI ((n + 1) % 2 ^ 8))) c 5 = nI t := by
    rw [gI_sI_n (Or.inl hca.2), gI_sI_n (Or.inl hca.2), gI_sI_n (Or.inl hca.1), k1.I hc, ht]
  rw [e5]
  have e2 : gI (sI (sI (sI (sI m a 3 (nI (n + 1))) (a + 1) 12 (nI ((n + 1) / 2 ^ 8))) (a + 1) 13 (nI ((n + 1) % 2 ^ 8))) a 5 (nI t)) a 2 = nI p := by
    rw [gI_sI_n (Or.inr (by decide)), gI_sI_n (Or.inl (by omega)), gI_sI_n (Or.inl (by omega)), gI_sI_n (Or.inr (by decide)), h3]
  rw [e2, openBytes_ok (by omega), bind_e]
  refine ⟨_, rfl, ?_, gI_sI_s, ?_, ?_, ?_, ?_, ?_, ?_, k2, ?_, ?_, ?_⟩
  · intro i hi
    rw [gI_sI_n (Or.inl (by omega)), gI_sI_n (Or.inl (by omega)), gI_sI_n (Or.inr (by omega)), gI_sI_n (Or.inr (by omega)), gI_sI_n (Or.inl (by omega)), h4 i hi]
  · rw [gI_sI_n (Or.inr (by decide)), e2]
  · rw [gI_sI_n (Or.inr (by decide)), gI_sI_n (Or.inr (by decide)), gI_sI_n (Or.inl (by omega)), gI_sI_n (Or.inl (by omega)), gI_sI_s]
  · rw [gI_sI_n (Or.inr (by decide)), gI_sI_s]
  · intro k c1 c2 c3 c5
    rw [gI_sI_n (Or.inr c1), gI_sI_n (Or.inr c5), gI_sI_n (Or.inl (by omega)), gI_sI_n (Or.inl (by omega)), gI_sI_n (Or.inr c3), k4 k c2]
  · exact fun k => k3 k
  · refine k1.trans (fun q hq k => ?_)
    have : q ≠ a ∧ q ≠ a + 1 := by unfold off at hq; omega
    exact ⟨by rw [gI_sI_n (Or.inl this.1), gI_sI_n (Or.inl this.1), gI_sI_n (Or.inl this.2), gI_sI_n (Or.inl this.2), gI_sI_n (Or.inl this.1)], rfl, rfl⟩
  · intro i hi
    rw [gI_sI_n (Or.inl (by omega)), gI_sI_n (Or.inl (by omega)), gI_sI_n (Or.inr (by omega)), gI_sI_n (Or.inr (by omega)), gI_sI_n (Or.inl (by omega)), k5 i (by omega)]
  · rw [gI_sI_n (Or.inl (by omega)), gI_sI_n (Or.inl (by omega)), gI_sI_n (Or.inr (by omega)), gI_sI_s]
  · rw [gI_sI_n (Or.inl (by omega)), gI_sI_n (Or.inl (by omega)), gI_sI_s]
theorem lushr_N (x : Int64) {k : Nat} (hk : k < 64) : lushr x (nI k) = lN (uN x / 2 ^ k) := by
  have := lus (n := uN x) (uN_lt x) k hk
  rw [lN_uN] at this
  exact this
theorem div_lt64 (x : Int64) (k : Nat) : uN x / 2 ^ k < 2 ^ 64 := Nat.lt_of_le_of_lt (Nat.div_le_self _ _) (uN_lt x)
theorem write_ok {K : Kn} {m : Mem} {a c p n t : Nat} {v : Int64} {s : Cs} {g : Nat → Nat} (h : wst K m a p g) (hn : gI m a 3 = nI n) (hn2 : n < 65535) (hc : off a 2 c) (hco : coR m c s) (hw : weR m c s t v) (hs : csOk s) (ht1 : s.1 ≤ t) (ht : t ≤ 2000000000) (hp : p + costA s t v ≤ 1488) :
    ∃ m', F_X0_write K m a c = some m' ∧ hbR m' (a + 1) (ext g p (costA s t v) (chN (encP s t v))) (p + costA s t v) ∧ wrP a n t (p + costA s t v) m m' := by
  have hw' := hw
  obtain ⟨w5, w6, w7, w8, w9, w10, w11, w12, w13⟩ := hw'
  obtain ⟨b1, b2, b3⟩ := id hs
  have hsec : secA s t = (t : Int) - s.1 - s.2.1 := rfl
  have hk := kindA_le (secA s t)
  have hcost := costA_e s t v
  have hext := exts_eq (encP s t v) g p (encP_ok hs t v)
  have hcw : chW (encP s t v) = costA s t v := rfl
  rw [hcw] at hext
  have fin : ∀ m1, wkp a m m1 → wst K m1 a (p + costA s t v) (exts g p (encP s t v)) → ∃ m', f_X0_write_155 K a c m1 = some m' ∧ hbR m' (a + 1) (ext g p (costA s t v) (chN (encP s t v))) (p + costA s t v) ∧ wrP a n t (p + costA s t v) m m' := by
    intro m1 k1 s1
    obtain ⟨m', e1, e2, e3⟩ := write_155 s1 k1 hn hn2 hp hc w5
    exact ⟨m', e1, e2.congr hext, e3⟩
  have hkw : kwid (kindA (secA s t)) ≤ 4 := by
    rcases (show kindA (secA s t) = 0 ∨ kindA (secA s t) = 1 ∨ kindA (secA s t) = 2 ∨ kindA (secA s t) = 3 ∨ kindA (secA s t) = 4 by omega) with h | h | h | h | h <;> rw [h] <;> decide
  have hcw2 : cwid (kindA (secA s t)) ≤ 32 := by rcases cwid_b hk with h | h <;> omega
  unfold F_X0_write f_X0_write
  rw [w8, stA0 hk, bind_e, stA1 hk, bind_e]
  have hpf := kpfx_lt (kindA (secA s t))
  have hpf2 : kpfx (kindA (secA s t)) < 16 := by
    rcases (show kindA (secA s t) = 0 ∨ kindA (secA s t) = 1 ∨ kindA (secA s t) = 2 ∨ kindA (secA s t) = 3 ∨ kindA (secA s t) = 4 by omega) with h | h | h | h | h <;> rw [h] <;> decide
  obtain ⟨m1, e1, s1, k1⟩ := wrCh (x := (nI (kpfx (kindA (secA s t)))).toInt64) (w := kwid (kindA (secA s t))) (v := kpfx (kindA (secA s t))) h (by rw [uN_nI (by omega)]; exact Nat.mod_eq_of_lt hpf) (by omega) (by omega)
  rw [e1, bind_e, k1.1.I hc, w8, stA2 hk, bind_e, k1.1.I hc, w7]
  obtain ⟨m2, e2, s2, k2⟩ := wrCh (x := (iZ (secA s t)).toInt64) (w := cwid (kindA (secA s t))) (v := lowA (kindA (secA s t)) (secA s t)) s1 (uN_low hk (by omega) (by omega)) (by omega) (by omega)
  rw [e2, bind_e]
  have K2 := k1.trans k2
  rw [K2.1.I hc, w9]
  have henc : encP s t v = (kpfx (kindA (secA s t)), kwid (kindA (secA s t))) :: (lowA (kindA (secA s t)) (secA s t), cwid (kindA (secA s t))) :: encV s.2.2.2 (v ^^^ s.2.2.1) := rfl
  generalize hx : v ^^^ s.2.2.1 = x at *
  rcases wayA_cases s.2.2.2 x with ⟨g1, g2⟩ | ⟨g1, g2⟩ | ⟨g1, g2, l, tt, g3, g4, g5⟩
  · rw [g2, if_pos (show nI 5 = (5 : Int32) from rfl)]
    rw [g2, if_pos rfl] at hcost
    obtain ⟨m3, e3, s3, k3⟩ := wrCh (x := 0) (w := 1) (v := 0) s2 (by decide) (by omega) (by omega)
    rw [show (1 : Int32) = nI 1 from rfl, e3, bind_e]
    refine fin m3 (K2.trans k3) ?_
    have he : encV s.2.2.2 x = [(0, 1)] := by unfold encV; rw [if_pos g2]
    rw [henc, he]
    simp only [exts]
    rw [hcost, show p + (kwid (kindA (secA s t)) + cwid (kindA (secA s t)) + 1) = p + kwid (kindA (secA s t)) + cwid (kindA (secA s t)) + 1 by omega]
    exact s3
  · rw [g2, if_neg (show ¬ nI 7 = (5 : Int32) by decide), if_neg (show ¬ nI 7 = (6 : Int32) by decide)]
    rw [g2, if_neg (by decide), if_neg (by decide)] at hcost
    have hwd := widA_e g1
    have hl31 := leadA_le x
    rw [K2.1.I hc, K2.1.I hc, w12, w13]
    simp only [bd_e]
    rw [show (64 : Int32) = nI 64 from rfl, pk_sub (by omega), pk_sub (by omega), show 64 - leadA x - tz x = widA x from rfl]
    obtain ⟨m3, e3, s3, k3⟩ := wrCh (x := 3) (w := 2) (v := 3) s2 (by decide) (by omega) (by omega)
    rw [show (2 : Int32) = nI 2 from rfl, e3, bind_e]
    have K3 := K2.trans k3
    rw [K3.1.I hc, w12]
    obtain ⟨m4, e4, s4, k4⟩ := wrCh (x := (nI (leadA x)).toInt64) (w := 5) (v := leadA x) s3 (by rw [uN_nI (by omega)]; exact Nat.mod_eq_of_lt (by omega)) (by omega) (by omega)
    rw [show (5 : Int32) = nI 5 from rfl, e4, bind_e]
    have K4 := K3.trans k4
    obtain ⟨m5, e5, s5, k5⟩ := wrCh (x := (nI (widA x - 1)).toInt64) (w := 6) (v := widA x - 1) s4 (by rw [uN_nI (by omega)]; exact Nat.mod_eq_of_lt (by omega)) (by omega) (by omega)
    rw [show (1 : Int32) = nI 1 from rfl, pk_sub (by omega), show (6 : Int32) = nI 6 from rfl, e5, bind_e]
    have K5 := K4.trans k5
    rw [K5.1.I hc, K5.1.J hc, w11, w13, lushr_N x (by omega)]
    obtain ⟨m6, e6, s6, k6⟩ := wrCh (x := lN (uN x / 2 ^ tz x)) (w := widA x) (v := uN x / 2 ^ tz x) s5 (by rw [uN_lN (div_lt64 _ _)]; exact Nat.mod_eq_of_lt (own_lt g1)) (by omega) (by omega)
    rw [e6, bind_e]
    refine fin m6 (K5.trans k6) ?_
    have he : encV s.2.2.2 x = [(3, 2), (leadA x, 5), (widA x - 1, 6), (uN x / 2 ^ tz x, widA x)] := by unfold encV; rw [if_neg (by omega), if_neg (by omega)]
    rw [henc, he]
    simp only [exts]
    rw [hcost, show p + (kwid (kindA (secA s t)) + cwid (kindA (secA s t)) + (13 + widA x)) = p + kwid (kindA (secA s t)) + cwid (kindA (secA s t)) + 2 + 5 + 6 + widA x by omega]
    exact s6
  · rw [g2, if_neg (show ¬ nI 6 = (5 : Int32) by decide), if_pos (show nI 6 = (6 : Int32) from rfl)]
    rw [g2, if_neg (by decide), if_pos rfl, g3] at hcost
    rw [g3] at b3
    obtain ⟨q1, q2⟩ := b3
    dsimp only at q1 q2
    have hco4 := hco.2.2.2
    rw [g3] at hco4
    obtain ⟨m3, e3, s3, k3⟩ := wrCh (x := 2) (w := 2) (v := 2) s2 (by decide) (by omega) (by omega)
    have hww : winW (some (l, tt)) = 64 - l - tt := rfl
    rw [hww] at hcost
    rw [show (2 : Int32) = nI 2 from rfl, e3, bind_e]
    have K3 := K2.trans k3
    rw [K3.1.I hc, K3.1.I hc, K3.1.J hc, w11, hco4.1, hco4.2, lushr_N x (show tt < 64 by omega), show (64 : Int32) = nI 64 from rfl, pk_sub (show l ≤ 64 by omega), pk_sub (show tt ≤ 64 - l by omega)]
    obtain ⟨m4, e4, s4, k4⟩ := wrCh (x := lN (uN x / 2 ^ tt)) (w := 64 - l - tt) (v := uN x / 2 ^ tt) s3 (by rw [uN_lN (div_lt64 _ _)]; exact Nat.mod_eq_of_lt (win_lt g4 q2)) (by omega) (by omega)
    rw [e4, bind_e]
    refine fin m4 (K3.trans k4) ?_
    have he : encV s.2.2.2 x = [(2, 2), (uN x / 2 ^ tt, 64 - l - tt)] := by unfold encV; rw [if_neg (by omega), if_pos g2, g3]; rfl
    rw [henc, he]
    simp only [exts]
    rw [hcost, show p + (kwid (kindA (secA s t)) + cwid (kindA (secA s t)) + (2 + (64 - l - tt))) = p + kwid (kindA (secA s t)) + cwid (kindA (secA s t)) + 2 + (64 - l - tt) by omega]
    exact s4
