/-! ===== the reference writes a point, a head; seals ===== -/
def WW (A q : Nat) : Nat → Nat → Prop := fun a k => (a = A ∧ 14 ≤ k ∧ k ≤ 20) ∨ (a = A + 4 ∧ 200 * q ≤ k ∧ k < 200 * q + 200) ∨ ((a = A + 5 ∨ a = A + 6 ∨ a = A + 7 ∨ a = A + 8 ∨ a = A + 9) ∧ k = q)
theorem WP_WW {A q a k : Nat} (h : WP A q a k) : WW A q a k := by unfold WP at h; unfold WW; omega
theorem wr_241 {K : Kn} {m : Mem} {A q n t p : Nat} {v : Int64} {c : Cs} {g : Nat → Nat} {w : Win} (hq : q < 80) (h : wsM K m A q p g) (hp : p ≤ 1488) (h14 : gJ m A 14 = lN c.1) (hct : c.1 ≤ t) (h12 : gI m (A + 4) (200 * q + 12) = nI (n / 256)) (h13 : gI m (A + 4) (200 * q + 13) = nI (n % 256)) (hn : n < 65535) (hw : match w with
  | none => gI m A 19 = 0
  | some w => gI m A 19 = 1 ∧ gI m A 17 = nI w.1 ∧ gI m A 18 = nI w.2) :
    ∃ m', f_X9_writes_241 K A (nI q) (lN t) v m = some m' ∧ csM m' A (t, t - c.1, v, w) ∧ gI m' A 20 = nI p ∧ hbM m' A q g p ∧ gI m' (A + 4) (200 * q + 12) = nI ((n + 1) / 256) ∧ gI m' (A + 4) (200 * q + 13) = nI ((n + 1) % 256) ∧ gI m' (A + 6) q = nI p ∧ gI m' (A + 5) q = nI (14 + (p + 7) / 8) ∧ (∀ i, i < 12 → gI m' (A + 4) (200 * q + i) = gI m (A + 4) (200 * q + i)) ∧ gI m' (A + 7) q = gI m (A + 7) q ∧ fr (WW A q) m m' := by
  obtain ⟨h1, h2, h3⟩ := h
  unfold f_X9_writes_241
  rw [h14]
  have e15 : lN t - lN c.1 = lN (t - c.1) := by
    rw [← lZ_nat, ← lZ_nat, lZ_sub, ← lZ_nat]; congr 1; omega
  rw [e15, bd_e, bd_e, bd_e]
  generalize hM3 : sJ (sJ (sJ m A 15 (lN (t - c.1))) A 14 (lN t)) A 16 v = M3
  have f3 : fr (WC A) m M3 := by
    rw [← hM3]
    exact ((fr_sJ ⟨rfl, by omega, by omega⟩).trans (fr_sJ ⟨rfl, by omega, by omega⟩)).trans (fr_sJ ⟨rfl, by omega, by omega⟩)
  have i3 : ∀ a j, gI M3 a j = gI m a j := fun a j => by rw [← hM3]; rfl
  have s3 := h1.on f3
  rw [show (12 : Int32) = nI 12 from rfl, show (13 : Int32) = nI 13 from rfl, byteAt_ok s3 hq (by omega), bind_e, byteAt_ok s3 hq (by omega), bind_e, i3, i3, h12, h13, bd_e, show (256 : Int32) = nI 256 from rfl, nI_mul, nI_add, nI_1, show n / 256 * 256 + n % 256 = n by omega, pk_rem (by omega) (by omega) (by omega), pk_div (by omega) (by omega) (by omega), show (200 : Int32) = nI 200 from rfl, nI_mul, nI_add, nI_add, s3.d3, bind_e, s3.s3 (by omega), bind_e]
  have s4 : MS K (sI M3 (A + 4) (200 * q + 12) (nI ((n + 1) / 256))) A := s3.on (fr_sI (W := fun _ _ => True) trivial)
  rw [s4.d3, bind_e, s4.s3 (by omega), bind_e]
  have s5 : MS K (sI (sI M3 (A + 4) (200 * q + 12) (nI ((n + 1) / 256))) (A + 4) (200 * q + 13) (nI ((n + 1) % 256))) A := s4.on (fr_sI (W := fun _ _ => True) trivial)
  rw [s5.d5, bind_e, s5.s5 hq, bind_e, gI_sI_n (Or.inl (by omega)), gI_sI_n (Or.inl (by omega)), i3, h2]
  have s6 : MS K (sI (sI (sI M3 (A + 4) (200 * q + 12) (nI ((n + 1) / 256))) (A + 4) (200 * q + 13) (nI ((n + 1) % 256))) (A + 6) q (nI p)) A := s5.on (fr_sI (W := fun _ _ => True) trivial)
  rw [s6.d4, bind_e, s6.s4 hq, bind_e, gI_sI_n (Or.inl (by omega)), gI_sI_n (Or.inl (by omega)), gI_sI_n (Or.inl (by omega)), i3, h2, show (7 : Int32) = nI 7 from rfl, show (8 : Int32) = nI 8 from rfl, show (14 : Int32) = nI 14 from rfl, nI_add, pk_div (by omega) (by omega) (by omega), nI_add]
  have gA : ∀ j, gI (sI (sI (sI (sI M3 (A + 4) (200 * q + 12) (nI ((n + 1) / 256))) (A + 4) (200 * q + 13) (nI ((n + 1) % 256))) (A + 6) q (nI p)) (A + 5) q (nI (14 + (p + 7) / 8))) A j = gI m A j := fun j => by
    rw [gI_sI_n (Or.inl (by omega)), gI_sI_n (Or.inl (by omega)), gI_sI_n (Or.inl (by omega)), gI_sI_n (Or.inl (by omega)), i3]
  have g4 : ∀ j, j ≠ 200 * q + 12 → j ≠ 200 * q + 13 → gI (sI (sI (sI (sI M3 (A + 4) (200 * q + 12) (nI ((n + 1) / 256))) (A + 4) (200 * q + 13) (nI ((n + 1) % 256))) (A + 6) q (nI p)) (A + 5) q (nI (14 + (p + 7) / 8))) (A + 4) j = gI m (A + 4) j := fun j a1 a2 => by
    rw [gI_sI_n (Or.inl (by omega)), gI_sI_n (Or.inl (by omega)), gI_sI_n (Or.inr a2), gI_sI_n (Or.inr a1), i3]
  refine ⟨_, rfl, ⟨?_, ?_, ?_, ?_⟩, ?_, ?_, ?_, ?_, ?_, gI_sI_s, ?_, ?_, ?_⟩
  · rw [gJ_sI, gJ_sI, gJ_sI, gJ_sI, ← hM3, gJ_sJ_n (Or.inr (by decide)), gJ_sJ_s]
  · rw [gJ_sI, gJ_sI, gJ_sI, gJ_sI, ← hM3, gJ_sJ_n (Or.inr (by decide)), gJ_sJ_n (Or.inr (by decide)), gJ_sJ_s]
  · rw [gJ_sI, gJ_sI, gJ_sI, gJ_sI, ← hM3, gJ_sJ_s]
  · dsimp only
    cases w with
    | none => dsimp only at hw ⊢; rw [gA]; exact hw
    | some w => dsimp only at hw ⊢; rw [gA, gA, gA]; exact hw
  · rw [gA]; exact h2
  · intro i hi
    rw [g4 _ (by omega) (by omega)]; exact h3 i hi
  · rw [gI_sI_n (Or.inl (by omega)), gI_sI_n (Or.inl (by omega)), gI_sI_n (Or.inr (by omega)), gI_sI_s]
  · rw [gI_sI_n (Or.inl (by omega)), gI_sI_n (Or.inl (by omega)), gI_sI_s]
  · rw [gI_sI_n (Or.inl (by omega)), gI_sI_s]
  · intro i hi
    exact g4 _ (by omega) (by omega)
  · rw [gI_sI_n (Or.inl (by omega)), gI_sI_n (Or.inl (by omega)), gI_sI_n (Or.inl (by omega)), gI_sI_n (Or.inl (by omega)), i3]
  · exact (f3.mono (fun a k z => Or.inl z)).trans ((((fr_sI (Or.inr (Or.inl ⟨rfl, by omega, by omega⟩))).trans (fr_sI (Or.inr (Or.inl ⟨rfl, by omega, by omega⟩)))).trans (fr_sI (Or.inr (Or.inr ⟨by omega, rfl⟩)))).trans (fr_sI (Or.inr (Or.inr ⟨by omega, rfl⟩))))
theorem kpfx_w (k : Nat) (hk : k ≤ 4) : uN (lN (kpfx k)) % 2 ^ kwid k = kpfx k := by
  rcases (show k = 0 ∨ k = 1 ∨ k = 2 ∨ k = 3 ∨ k = 4 by omega) with rfl | rfl | rfl | rfl | rfl <;> decide
theorem uN_lowZ {z : Int} {k : Nat} (hk : k ≤ 4) (h1 : -2147483648 ≤ z) (h2 : z < 2147483648) : uN (lZ z) % 2 ^ cwid k = lowA k z := by
  rw [← iZ_long h1 h2]; exact uN_low hk h1 h2
/-- the bits of a point -/
theorem wr_bits {K : Kn} {m : Mem} {A q p n t : Nat} {v : Int64} {c : Cs} {g : Nat → Nat} (hq : q < 80) (h : wsM K m A q p g) (hcs : csM m A c) (hs : csOk c) (ht1 : c.1 ≤ t) (ht : t ≤ 2000000000) (hp : p + costA c t v ≤ 1488) (h12 : gI m (A + 4) (200 * q + 12) = nI (n / 256)) (h13 : gI m (A + 4) (200 * q + 13) = nI (n % 256)) (hn : n < 65535) :
    ∃ m', F_X9_writes K m A (nI q) (lN t) v = some m' ∧ csM m' A (stepA c t v) ∧ gI m' A 20 = nI (p + costA c t v) ∧ hbM m' A q (ext g p (costA c t v) (chN (encP c t v))) (p + costA c t v) ∧ gI m' (A + 4) (200 * q + 12) = nI ((n + 1) / 256) ∧ gI m' (A + 4) (200 * q + 13) = nI ((n + 1) % 256) ∧ gI m' (A + 6) q = nI (p + costA c t v) ∧ gI m' (A + 5) q = nI (14 + (p + costA c t v + 7) / 8) ∧ (∀ i, i < 12 → gI m' (A + 4) (200 * q + i) = gI m (A + 4) (200 * q + i)) ∧ gI m' (A + 7) q = gI m (A + 7) q ∧ fr (WW A q) m m' := by
  obtain ⟨b1, b2, b3⟩ := id hs
  have hsec : secA c t = (t : Int) - c.1 - c.2.1 := rfl
  have hk := kindA_le (secA c t)
  have hcost := costA_e c t v
  have hext := exts_eq (encP c t v) g p (encP_ok hs t v)
  have hcw : chW (encP c t v) = costA c t v := rfl
  rw [hcw] at hext
  have hkw : 1 ≤ kwid (kindA (secA c t)) ∧ kwid (kindA (secA c t)) ≤ 4 ∧ cwid (kindA (secA c t)) ≤ 32 := by
    rcases (show kindA (secA c t) = 0 ∨ kindA (secA c t) = 1 ∨ kindA (secA c t) = 2 ∨ kindA (secA c t) = 3 ∨ kindA (secA c t) = 4 by omega) with h | h | h | h | h <;> rw [h] <;> decide
  have hwl : wayA c.2.2.2 (v ^^^ c.2.2.1) < 8 := by rcases wayA_cases c.2.2.2 (v ^^^ c.2.2.1) with h | h | h <;> omega
  unfold F_X9_writes f_X9_writes
  rw [hcs.1, hcs.2.1]
  have es : lN t - lN c.1 - lN c.2.1 = lZ (secA c t) := by rw [← lZ_nat, ← lZ_nat, ← lZ_nat, lZ_sub, lZ_sub]; rfl
  rw [es, bd_e, classOf_ok (by omega) (by omega), bind_e]
  have e70 : (if nI (kindA (secA c t)) = 0 then f_X9_writes_70 K A (nI q) (lN t) v m (lZ (secA c t)) (nI (kindA (secA c t))) A (nI q) (0 : Int64) else if nI (kindA (secA c t)) = (1 : Int32) then f_X9_writes_70 K A (nI q) (lN t) v m (lZ (secA c t)) (nI (kindA (secA c t))) A (nI q) (2 : Int64) else if nI (kindA (secA c t)) = (2 : Int32) then f_X9_writes_70 K A (nI q) (lN t) v m (lZ (secA c t)) (nI (kindA (secA c t))) A (nI q) (6 : Int64) else if nI (kindA (secA c t)) = (3 : Int32) then f_X9_writes_70 K A (nI q) (lN t) v m (lZ (secA c t)) (nI (kindA (secA c t))) A (nI q) (14 : Int64) else f_X9_writes_70 K A (nI q) (lN t) v m (lZ (secA c t)) (nI (kindA (secA c t))) A (nI q) (15 : Int64)) = f_X9_writes_70 K A (nI q) (lN t) v m (lZ (secA c t)) (nI (kindA (secA c t))) A (nI q) (lN (kpfx (kindA (secA c t)))) := by
    rcases (show kindA (secA c t) = 0 ∨ kindA (secA c t) = 1 ∨ kindA (secA c t) = 2 ∨ kindA (secA c t) = 3 ∨ kindA (secA c t) = 4 by omega) with h | h | h | h | h <;> rw [h] <;> rfl
  rw [e70]
  unfold f_X9_writes_70
  rw [signsOf_ok hk, bind_e]
  obtain ⟨m1, e1, w1, f1⟩ := puts_ok (x := lN (kpfx (kindA (secA c t)))) hq h (kpfx_w _ hk) (by omega) (by omega)
  rw [e1, bind_e, wideOf_ok hk, bind_e]
  obtain ⟨m2, e2, w2, f2⟩ := puts_ok (x := lZ (secA c t)) hq w1 (uN_lowZ hk (by omega) (by omega)) (by omega) (by omega)
  rw [e2, bind_e]
  have f12 := f1.trans f2
  have cs2 := hcs.on f12 (fun k _ _ z => by unfold WP at z; omega)
  rw [cs2.2.2.1, bd_e, wayOf_ok cs2 b3, bind_e]
  have i5 : nI (wayA c.2.2.2 (v ^^^ c.2.2.1)) = (5 : Int32) ↔ wayA c.2.2.2 (v ^^^ c.2.2.1) = 5 := nI_eq (b := 5) (by omega) (by omega)
  have i6 : nI (wayA c.2.2.2 (v ^^^ c.2.2.1)) = (6 : Int32) ↔ wayA c.2.2.2 (v ^^^ c.2.2.1) = 6 := nI_eq (b := 6) (by omega) (by omega)
  have fin : ∀ (m9 : Mem) (w : Win), wsM K m9 A q (p + costA c t v) (exts g p (encP c t v)) → fr (WW A q) m m9 → gJ m9 A 14 = lN c.1 → gI m9 (A + 4) (200 * q + 12) = nI (n / 256) → gI m9 (A + 4) (200 * q + 13) = nI (n % 256) → (∀ i, i < 12 → gI m9 (A + 4) (200 * q + i) = gI m (A + 4) (200 * q + i)) → gI m9 (A + 7) q = gI m (A + 7) q → (match w with
      | none => gI m9 A 19 = 0
      | some w => gI m9 A 19 = 1 ∧ gI m9 A 17 = nI w.1 ∧ gI m9 A 18 = nI w.2) → (t, t - c.1, v, w) = stepA c t v → ∃ m', f_X9_writes_241 K A (nI q) (lN t) v m9 = some m' ∧ csM m' A (stepA c t v) ∧ gI m' A 20 = nI (p + costA c t v) ∧ hbM m' A q (ext g p (costA c t v) (chN (encP c t v))) (p + costA c t v) ∧ gI m' (A + 4) (200 * q + 12) = nI ((n + 1) / 256) ∧ gI m' (A + 4) (200 * q + 13) = nI ((n + 1) % 256) ∧ gI m' (A + 6) q = nI (p + costA c t v) ∧ gI m' (A + 5) q = nI (14 + (p + costA c t v + 7) / 8) ∧ (∀ i, i < 12 → gI m' (A + 4) (200 * q + i) = gI m (A + 4) (200 * q + i)) ∧ gI m' (A + 7) q = gI m (A + 7) q ∧ fr (WW A q) m m' := fun m9 w a1 a2 a3 a4 a5 a6 a7 a8 a9 => by
    obtain ⟨m', r1, r2, r3, r4, r5, r6, r7, r8, r9, r10, r11⟩ := wr_241 (c := c) (w := w) (v := v) (t := t) hq a1 hp a3 ht1 a4 a5 hn a8
    rw [a9] at r2
    exact ⟨m', r1, r2, r3, r4.congr hext, r5, r6, r7, r8, fun i hi => (r9 i hi).trans (a6 i hi), r10.trans a7, a2.trans r11⟩
  have up : ∀ {mm : Mem}, fr (WP A q) m mm → gI mm (A + 4) (200 * q + 12) = nI (n / 256) ∧ gI mm (A + 4) (200 * q + 13) = nI (n % 256) ∧ (∀ i, i < 12 → gI mm (A + 4) (200 * q + i) = gI m (A + 4) (200 * q + i)) ∧ gI mm (A + 7) q = gI m (A + 7) q ∧ gJ mm A 14 = lN c.1 := fun {mm} f => ⟨(f.I (fun z => by unfold WP at z; omega)).trans h12, (f.I (fun z => by unfold WP at z; omega)).trans h13, fun i hi => f.I (fun z => by unfold WP at z; omega), f.I (fun z => by unfold WP at z; omega), (f.J (fun z => by unfold WP at z; omega)).trans hcs.1⟩
  rcases wayA_cases c.2.2.2 (v ^^^ c.2.2.1) with ⟨g1, g2⟩ | ⟨g1, g2⟩ | ⟨g1, g2, l, tt, g3, g4, g5⟩
  · rw [if_pos g2] at hcost
    rw [if_pos (i5.mpr g2)]
    obtain ⟨m3, e3, w3, f3⟩ := puts_ok (x := (0 : Int64)) (w := 1) (v := 0) hq w2 (by decide) (by omega) (by omega)
    rw [show (1 : Int32) = nI 1 from rfl, e3, bind_e]
    have f123 := f12.trans f3
    obtain ⟨u1, u2, u3, u4, u5⟩ := up f123
    have ee : exts g p (encP c t v) = ext (ext (ext g p (kwid (kindA (secA c t))) (kpfx (kindA (secA c t)))) (p + kwid (kindA (secA c t))) (cwid (kindA (secA c t))) (lowA (kindA (secA c t)) (secA c t))) (p + kwid (kindA (secA c t)) + cwid (kindA (secA c t))) 1 0 := by
      unfold encP encV
      rw [if_pos g2]; rfl
    refine fin m3 c.2.2.2 ?_ (f123.mono (fun a k z => WP_WW z)) u5 u1 u2 u3 u4 ((hcs.on f123 (fun k _ _ z => by unfold WP at z; omega)).2.2.2) ?_
    · rw [ee, show p + costA c t v = p + kwid (kindA (secA c t)) + cwid (kindA (secA c t)) + 1 by omega]; exact w3
    · unfold stepA; rw [if_neg (by omega)]
  · rw [if_neg (by omega), if_neg (by omega)] at hcost
    have hwd := widA_e g1
    have hld := leadA_le (v ^^^ c.2.2.1)
    rw [if_neg (fun z => by have := i5.mp z; omega), if_neg (fun z => by have := i6.mp z; omega)]
    obtain ⟨m3, e3, w3, f3⟩ := puts_ok (x := (3 : Int64)) (w := 2) (v := 3) hq w2 (by decide) (by omega) (by omega)
    rw [show (2 : Int32) = nI 2 from rfl, e3, bind_e, aheadOf_ok, bind_e, bd_e, (tz_x (v ^^^ c.2.2.1)).1, bind_e, bd_e, bd_e]
    have fs : fr (fun a k => a = A ∧ 17 ≤ k ∧ k ≤ 19) m3 (sI (sI (sI m3 A 17 (nI (leadA (v ^^^ c.2.2.1)))) A 18 (nI (tz (v ^^^ c.2.2.1)))) A 19 1) := ((fr_sI ⟨rfl, by omega, by omega⟩).trans (fr_sI ⟨rfl, by omega, by omega⟩)).trans (fr_sI ⟨rfl, by omega, by omega⟩)
    have q17 : gI (sI (sI (sI m3 A 17 (nI (leadA (v ^^^ c.2.2.1)))) A 18 (nI (tz (v ^^^ c.2.2.1)))) A 19 1) A 17 = nI (leadA (v ^^^ c.2.2.1)) := by rw [gI_sI_n (Or.inr (by decide)), gI_sI_n (Or.inr (by decide)), gI_sI_s]
    have q18 : gI (sI (sI (sI m3 A 17 (nI (leadA (v ^^^ c.2.2.1)))) A 18 (nI (tz (v ^^^ c.2.2.1)))) A 19 1) A 18 = nI (tz (v ^^^ c.2.2.1)) := by rw [gI_sI_n (Or.inr (by decide)), gI_sI_s]
    have q19 : gI (sI (sI (sI m3 A 17 (nI (leadA (v ^^^ c.2.2.1)))) A 18 (nI (tz (v ^^^ c.2.2.1)))) A 19 1) A 19 = 1 := gI_sI_s
    generalize sI (sI (sI m3 A 17 (nI (leadA (v ^^^ c.2.2.1)))) A 18 (nI (tz (v ^^^ c.2.2.1)))) A 19 1 = m4 at fs q17 q18 q19 ⊢
    have w4 : wsM K m4 A q _ _ := ⟨w3.1.on fs, (fs.I (fun z => by omega)).trans w3.2.1, w3.2.2.on fs (fun k z => by omega)⟩
    rw [q17, show (5 : Int32) = nI 5 from rfl]
    obtain ⟨m5, e5, w5, f5⟩ := puts_ok (x := (nI (leadA (v ^^^ c.2.2.1))).toInt64) (w := 5) (v := leadA (v ^^^ c.2.2.1)) hq w4 (by rw [uN_nI (by omega), Nat.mod_eq_of_lt (by omega)]) (by omega) (by omega)
    rw [e5, bind_e, wideAnew_ok g1, bind_e, show (1 : Int32) = nI 1 from rfl, pk_sub (by omega), show (6 : Int32) = nI 6 from rfl]
    obtain ⟨m6, e6, w6, f6⟩ := puts_ok (x := (nI (widA (v ^^^ c.2.2.1) - 1)).toInt64) (w := 6) (v := widA (v ^^^ c.2.2.1) - 1) hq w5 (by rw [uN_nI (by omega), Nat.mod_eq_of_lt (by omega)]) (by omega) (by omega)
    rw [e6, bind_e, bind_e]
    have f56 := f5.trans f6
    have q18' : gI m6 A 18 = nI (tz (v ^^^ c.2.2.1)) := (f56.I (fun z => by unfold WP at z; omega)).trans q18
    rw [q18', lushr_N _ (by omega)]
    obtain ⟨m7, e7, w7, f7⟩ := puts_ok (x := lN (uN (v ^^^ c.2.2.1) / 2 ^ tz (v ^^^ c.2.2.1))) (w := widA (v ^^^ c.2.2.1)) (v := uN (v ^^^ c.2.2.1) / 2 ^ tz (v ^^^ c.2.2.1)) hq w6 (by rw [uN_lN (div_lt64 _ _), Nat.mod_eq_of_lt (own_lt g1)]) (by omega) (by omega)
    rw [e7, bind_e]
    have f567 := f56.trans f7
    have f123 := f12.trans f3
    obtain ⟨u1, u2, u3, u4, u5⟩ := up f123
    have t1 : ∀ {a k}, ¬ (a = A ∧ 17 ≤ k ∧ k ≤ 20) → ¬ (a = A + 4 ∧ 200 * q + 14 ≤ k) → gI m7 a k = gI m3 a k := fun {a k} z1 z2 => (f567.I (fun z => by unfold WP at z; omega)).trans (fs.I (fun z => by omega))
    have ee : exts g p (encP c t v) = ext (ext (ext (ext (ext (ext g p (kwid (kindA (secA c t))) (kpfx (kindA (secA c t)))) (p + kwid (kindA (secA c t))) (cwid (kindA (secA c t))) (lowA (kindA (secA c t)) (secA c t))) (p + kwid (kindA (secA c t)) + cwid (kindA (secA c t))) 2 3) (p + kwid (kindA (secA c t)) + cwid (kindA (secA c t)) + 2) 5 (leadA (v ^^^ c.2.2.1))) (p + kwid (kindA (secA c t)) + cwid (kindA (secA c t)) + 2 + 5) 6 (widA (v ^^^ c.2.2.1) - 1)) (p + kwid (kindA (secA c t)) + cwid (kindA (secA c t)) + 2 + 5 + 6) (widA (v ^^^ c.2.2.1)) (uN (v ^^^ c.2.2.1) / 2 ^ tz (v ^^^ c.2.2.1)) := by
      unfold encP encV
      rw [if_neg (by omega), if_neg (by omega)]; rfl
    refine fin m7 (some (leadA (v ^^^ c.2.2.1), tz (v ^^^ c.2.2.1))) ?_ ?_ ?_ ((t1 (by omega) (by omega)).trans u1) ((t1 (by omega) (by omega)).trans u2) (fun i hi => (t1 (by omega) (by omega)).trans (u3 i hi)) ((t1 (by omega) (by omega)).trans u4) ?_ ?_
    · rw [ee, show p + costA c t v = p + kwid (kindA (secA c t)) + cwid (kindA (secA c t)) + 2 + 5 + 6 + widA (v ^^^ c.2.2.1) by omega]; exact w7
    · exact ((f123.mono (fun a k z => WP_WW z)).trans (fs.mono (fun a k z => Or.inl (by omega)))).trans (f567.mono (fun a k z => WP_WW z))
    · rw [f567.J (fun z => by unfold WP at z; omega), fs.J (fun z => by omega)]; exact u5
    · dsimp only
      exact ⟨(f567.I (fun z => by unfold WP at z; omega)).trans q19, (f567.I (fun z => by unfold WP at z; omega)).trans q17, (f567.I (fun z => by unfold WP at z; omega)).trans q18⟩
    · unfold stepA; rw [if_pos g2]
  · rw [if_neg (by omega), if_pos g2] at hcost
    have h4 := hcs.2.2.2
    rw [g3] at h4 b3
    have b3 : l ≤ 31 ∧ l + tt ≤ 63 := b3
    have eW : winW c.2.2.2 = 64 - l - tt := by rw [g3]; rfl
    have eT : winT c.2.2.2 = tt := by rw [g3]; rfl
    rw [eW] at hcost
    rw [if_neg (fun z => by have := i5.mp z; omega), if_pos (i6.mpr g2)]
    obtain ⟨m3, e3, w3, f3⟩ := puts_ok (x := (2 : Int64)) (w := 2) (v := 2) hq w2 (by decide) (by omega) (by omega)
    have f123 := f12.trans f3
    have q17 : gI m3 A 17 = nI l := (f123.I (fun z => by unfold WP at z; omega)).trans h4.2.1
    have q18 : gI m3 A 18 = nI tt := (f123.I (fun z => by unfold WP at z; omega)).trans h4.2.2
    rw [show (2 : Int32) = nI 2 from rfl, e3, bind_e, q17, q18, lushr_N _ (by omega), show (64 : Int32) = nI 64 from rfl, pk_sub (by omega), pk_sub (by omega)]
    obtain ⟨m4, e4, w4, f4⟩ := puts_ok (x := lN (uN (v ^^^ c.2.2.1) / 2 ^ tt)) (w := 64 - l - tt) (v := uN (v ^^^ c.2.2.1) / 2 ^ tt) hq w3 (by rw [uN_lN (div_lt64 _ _), Nat.mod_eq_of_lt (win_lt g4 b3.2)]) (by omega) (by omega)
    rw [e4, bind_e]
    have f1234 := f123.trans f4
    obtain ⟨u1, u2, u3, u4, u5⟩ := up f1234
    have ee : exts g p (encP c t v) = ext (ext (ext (ext g p (kwid (kindA (secA c t))) (kpfx (kindA (secA c t)))) (p + kwid (kindA (secA c t))) (cwid (kindA (secA c t))) (lowA (kindA (secA c t)) (secA c t))) (p + kwid (kindA (secA c t)) + cwid (kindA (secA c t))) 2 2) (p + kwid (kindA (secA c t)) + cwid (kindA (secA c t)) + 2) (64 - l - tt) (uN (v ^^^ c.2.2.1) / 2 ^ tt) := by
      unfold encP encV
      rw [if_neg (by omega), if_pos g2, eT, eW]; rfl
    refine fin m4 c.2.2.2 ?_ (f1234.mono (fun a k z => WP_WW z)) u5 u1 u2 u3 u4 ((hcs.on f1234 (fun k _ _ z => by unfold WP at z; omega)).2.2.2) ?_
    · rw [ee, show p + costA c t v = p + kwid (kindA (secA c t)) + cwid (kindA (secA c t)) + 2 + (64 - l - tt) by omega]; exact w4
    · unfold stepA; rw [if_neg (by omega)]
theorem writes_ok {K : Kn} {m : Mem} {A q p t : Nat} {v : Int64} {b : Bk} {c : Cs} {l : List PtR} (h : MS K m A) (hq : q < 80) (hb : bkOk b) (ho : b.2.2.1 = false) (hr : rsB b = .inr (p, c, l)) (hm : mbR m A q b) (hcs : csM m A c) (h20 : gI m A 20 = nI p) (ht1 : c.1 < t) (ht : t ≤ 2000000000) (hp : p + costA c t v ≤ 1480) :
    ∃ m', F_X9_writes K m A (nI q) (lN t) v = some m' ∧ mbR m' A q (wrB b p c t v) ∧ csM m' A (stepA c t v) ∧ gI m' A 20 = nI (p + costA c t v) ∧ fr (WW A q) m m' := by
  obtain ⟨f1, f2, f3, f4, f5, f6, f7, f8, f9, f10, f11⟩ := rs_facts hb hr
  obtain ⟨p', c', l', hr', hop⟩ := ok_open hb ho
  rw [hr] at hr'
  cases hr'
  have h14 := hb.2.1
  have hby := hb.1
  have hh := opn_hb hop hby
  have hsz := hop.2.1
  have h12 := hby 12 (by omega)
  have h13 := hby 13 (by omega)
  have hcte := hct_e h12 h13
  obtain ⟨m', r1, r2, r3, r4, r5, r6, r7, r8, r9, r10, r11⟩ := wr_bits (K := K) (m := m) (A := A) (q := q) (p := p) (n := hct b.1) (t := t) (v := v) (c := c) (g := fb b.1 p) hq ⟨h, h20, fun i hi => by
    rw [Nat.add_assoc, hm.1 (14 + i) (by omega), hh i hi]⟩ hcs f5 (by omega) ht (by omega) (by rw [hm.1 12 (by omega), hcte, show (b.1 12 * 256 + b.1 13) / 256 = b.1 12 by omega]) (by rw [hm.1 13 (by omega), hcte, show (b.1 12 * 256 + b.1 13) % 256 = b.1 13 by omega]) (by omega)
  obtain ⟨-, hrs⟩ := wr_ok hb ho hr (v := v) ht1 ht hp
  refine ⟨m', r1, ⟨fun i hi => ?_, r8, ?_, (fun z => by cases z), fun _ p2 c2 l2 hr2 => ?_⟩, r2, r3, r11⟩
  · show _ = nI (wrF b.1 p (costA c t v) (chN (encP c t v)) i)
    have hi : i < 14 + (p + costA c t v + 7) / 8 := hi
    unfold wrF
    by_cases c1 : i = 12
    · subst c1; rw [if_pos rfl]; exact r5
    rw [if_neg c1]
    by_cases c2 : i = 13
    · subst c2; rw [if_pos rfl]; exact r6
    rw [if_neg c2]
    by_cases c3 : i < 14
    · rw [if_pos c3, r9 i (by omega)]; exact hm.1 i (by omega)
    · rw [if_neg c3]
      have := r4 (i - 14) (by omega)
      rw [show 200 * q + 14 + (i - 14) = 200 * q + i by omega] at this
      exact this
  · rw [r10, hm.2.2.1, ho]; rfl
  · rw [hrs] at hr2
    cases hr2
    exact r7
