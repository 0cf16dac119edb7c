theorem rdV_shape {f : Nat → Nat} (hf : ∀ q, f q < 2) (w : Win) (p : Nat) : ((rdV f w p).1 = 5 ∨ (rdV f w p).1 = 6 ∨ (rdV f w p).1 = 7) ∧ ((rdV f w p).1 = 5 → (rdV f w p).2.1 = 0) ∧ ((rdV f w p).1 = 7 → (rdV f w p).2.2.1 ≤ 31) ∧ ((rdV f w p).1 = 7 → 64 < (rdV f w p).2.2.1 + (rdV f w p).2.2.2.1 → (rdV f w p).2.1 = 0) := by
  unfold rdV
  split
  · exact ⟨Or.inl rfl, fun _ => rfl, fun z => by simp at z, fun z => by simp at z⟩
  split
  · exact ⟨Or.inr (Or.inl rfl), fun z => by simp at z, fun z => by simp at z, fun z => by simp at z⟩
  · refine ⟨Or.inr (Or.inr rfl), fun z => by simp at z, fun _ => ?_, fun _ z => if_pos z⟩
    have := num_lt hf (p + 2) 5
    show num f (p + 2) 5 ≤ 31
    omega
theorem wayA_0 (w : Win) : wayA w 0 = 5 := by unfold wayA; rw [if_pos rfl]
theorem xor_d (a d : Int64) : (a ^^^ d) ^^^ a = d := by rw [xor_c (a ^^^ d), xor_c a d, xor_back]
theorem nI_long {n : Nat} (h : n < 2147483648) : (nI n).toInt64 = lN n := by
  apply Int64.toInt_inj.mp
  rw [Int32.toInt_toInt64, nI_toInt h, pf_lI (by omega)]
theorem lZ_toI (z : Int) : (lZ z).toInt32 = iZ z := by
  unfold lZ iZ
  simp
theorem step_same {s : Cs} {t : Nat} {R : Nat × Int64 × Nat × Nat × Nat} (hR : okB s.2.2.2 R = true) (h1 : R.1 = 5 ∨ R.1 = 6 ∨ R.1 = 7) (h5 : R.1 = 5 → R.2.1 = 0) : stepA s t (s.2.2.1 ^^^ R.2.1) = (t, t - s.1, s.2.2.1 ^^^ R.2.1, if R.1 = 7 then some (R.2.2.1, 64 - R.2.2.1 - R.2.2.2.1) else s.2.2.2) ∧ wayA s.2.2.2 R.2.1 = R.1 := by
  unfold stepA
  rw [xor_d]
  simp only [okB, Bool.or_eq_true, Bool.and_eq_true, beq_iff_eq] at hR
  rcases h1 with h | h | h
  · rw [h5 h, wayA_0, h]; exact ⟨rfl, rfl⟩
  · rcases hR with hR | ⟨hR, -⟩
    · omega
    · rw [hR, h]; exact ⟨rfl, rfl⟩
  · rcases hR with hR | ⟨hR, hR2 | ⟨g1, g2⟩⟩
    · omega
    · omega
    · rw [hR, h, if_pos rfl, if_pos rfl, ← g1, show tz R.2.1 = 64 - R.2.2.1 - R.2.2.2.1 by omega]
      exact ⟨rfl, rfl⟩
theorem kpR_c {r : Nat} {m m' : Mem} (h : eqOn (offc (r + 1)) m m') (hs : szm m' = szm m) : kpR r m m' := ⟨h.mono (fun _ z => z.2), hs, fun _ _ => h.I (show r ≠ r + 1 by omega), fun _ => h.R (show r ≠ r + 1 by omega)⟩
theorem tvR.on {p : Nat → Prop} {m m' : Mem} {r : Nat} {R : Nat × Int64 × Nat × Nat × Nat} (h : tvR m r R) (e : eqOn p m m') (hp : p r) : tvR m' r R := by
  obtain ⟨a, b, c, d⟩ := h
  exact ⟨(e.I hp).trans a, (e.J hp).trans b, (e.I hp).trans c, fun z => ⟨(e.I hp).trans (d z).1, fun z2 => (e.I hp).trans ((d z).2 z2)⟩⟩
theorem tkR.on {p : Nat → Prop} {K : Kn} {m m' : Mem} {r β : Nat} {by_ : Nat → Nat} {pos lim : Nat} (h : tkR K m r β by_ pos lim) (e : eqOn p m m') (hp : p r) (hb : p β) : tkR K m' r β by_ pos lim := by
  obtain ⟨h1, h2, h3, h4, h5, h6, h7, h8⟩ := h
  exact ⟨(e.R hp).trans h1, h2, h3, (e.I hp).trans h4, (e.I hp).trans h5, h6, h7, h8.on e hb⟩
/-- what a point read leaves of the class, the way and the cost -/
def rdR (m' : Mem) (r : Nat) (s : Cs) (P : Nat × Nat × Cs × Nat × Nat) : Prop := gI m' r 11 = nI P.2.2.2.1 ∧ gI m' r 12 = nI P.2.2.2.2 ∧ gI m' (r + 1) 10 = nI (costA s P.2.2.1.1 P.2.2.1.2.2.1) ∧ gI m' (r + 1) 9 = nI P.2.2.2.2
theorem read_tail {K : Kn} {m : Mem} {r β : Nat} {by_ : Nat → Nat} {p q L k : Nat} {s : Cs} {z4 : Int64} {sg : Int} {R : Nat × Int64 × Nat × Nat × Nat} (h : reR K m r β by_ q (112 + L) s) (h11 : gI m r 11 = nI k) (hk : k ≤ 4) (hR : tvR m r R) (hR1 : R.1 = 5 ∨ R.1 = 6 ∨ R.1 = 7) (h5 : R.1 = 5 → R.2.1 = 0) (h7 : R.1 = 7 → R.2.2.1 ≤ 31) (h70 : R.1 = 7 → 64 < R.2.2.1 + R.2.2.2.1 → R.2.1 = 0) (h1 : 1 ≤ (s.2.1 : Int) + sg) (h2 : (s.1 : Int) + s.2.1 + sg ≤ 2000000000) {P : Nat × Nat × Cs × Nat × Nat}
    (hP : P = if (kindA sg == k && okB s.2.2.2 R) = false then (4, R.2.2.2.2, s, k, R.1) else (0, R.2.2.2.2, (((s.1 : Int) + s.2.1 + sg).toNat, ((s.2.1 : Int) + sg).toNat, s.2.2.1 ^^^ R.2.1, if R.1 = 7 then some (R.2.2.1, 64 - R.2.2.1 - R.2.2.2.1) else s.2.2.2), k, R.1)) :
    ∃ m', (if (gI m r 16) = 0 then
          (ldO K m r 0 1).bind fun b14 =>
          (ldO K m r 0 1).bind fun b15 =>
          (F_X1_weigh K m b14 (nI ((s.1 : Int) + s.2.1 + sg).toNat) ((gJ m b15 2) ^^^ (gJ m r 15))).bind fun q16 =>
          (F_X6_isToldSo K q16 r).bind fun q17 =>
          if q17 = 0 then
            some ((4 : Int32), q16)
          else
            (ldO K q16 r 0 1).bind fun b19 =>
            (F_X1_step K q16 b19).bind fun q20 =>
            some ((0 : Int32), q20)
        else
          some ((4 : Int32), m)) = some (nI P.1, m') ∧ kpR r m m' ∧ (P.1 = 0 → reR K m' r β by_ q (112 + L) P.2.2.1 ∧ rdR m' r s P) := by
  obtain ⟨t1, t2, t3, t4, t5, t6, t7⟩ := h
  have hRR := hR
  obtain ⟨r12, r15, r16, r7⟩ := hR
  by_cases c16 : R.1 = 7 ∧ 64 < R.2.2.1 + R.2.2.2.1
  · rw [if_pos c16] at r16
    rw [if_neg (by rw [r16]; decide)]
    have : okB s.2.2.2 R = false := by
      unfold okB
      rw [h70 c16.1 c16.2, wayA_0, c16.1]; simp
    rw [this, Bool.and_false, if_pos rfl] at hP
    rw [hP]
    exact ⟨m, rfl, kpR.refl _ _, fun z => by simp at z⟩
  · rw [if_neg c16] at r16
    rw [if_pos r16]
    simp only [ldO_n t2 t3, bind_e]
    have ht1 : s.1 ≤ ((s.1 : Int) + s.2.1 + sg).toNat := by omega
    have ht2 : ((s.1 : Int) + s.2.1 + sg).toNat ≤ 2000000000 := by omega
    have hsec : secA s ((s.1 : Int) + s.2.1 + sg).toNat = sg := by unfold secA; omega
    rw [t5.2.2.1, r15, weigh_ok t5 t6 ht1 ht2, bind_e]
    have hoff := wg_off m (r + 1) s ((s.1 : Int) + s.2.1 + sg).toNat (s.2.2.1 ^^^ R.2.1)
    have hwe := wg_we m (r + 1) s ((s.1 : Int) + s.2.1 + sg).toNat (s.2.2.1 ^^^ R.2.1)
    have hco := wg_co t5 ((s.1 : Int) + s.2.1 + sg).toNat (s.2.2.1 ^^^ R.2.1)
    have hsz := wg_sz m (r + 1) s ((s.1 : Int) + s.2.1 + sg).toNat (s.2.2.1 ^^^ R.2.1)
    generalize wgM m (r + 1) s ((s.1 : Int) + s.2.1 + sg).toNat (s.2.2.1 ^^^ R.2.1) = m1 at hoff hwe hco hsz ⊢
    have hrr : offc (r + 1) r := show r ≠ r + 1 by omega
    have q2 : gR m1 r 0 = some (r + 1) := (hoff.R hrr).trans t2
    have q11 : gI m1 r 11 = nI k := (hoff.I hrr).trans h11
    rw [told_ok q2 t3 hwe q11 hk (hRR.on hoff hrr) hR1 h5 (xor_d _ _) (fun z => ⟨by omega, h7 z⟩), bind_e, hsec]
    cases hb : (kindA sg == k && okB s.2.2.2 R) with
    | false =>
      rw [hb, if_pos rfl] at hP
      rw [hP]
      exact ⟨m1, rfl, kpR_c hoff hsz, fun z => by simp at z⟩
    | true =>
      rw [hb, if_neg (by decide)] at hP
      have hok : okB s.2.2.2 R = true := by simp at hb; exact hb.2
      rw [if_neg (by decide), ldO_n q2 t3, bind_e]
      obtain ⟨m2, e1, e2, e3, e4, e5, e6⟩ := step_ok (K := K) hco hwe t6 ht1 ht2
      rw [e1, bind_e]
      obtain ⟨es, ew⟩ := step_same (t := ((s.1 : Int) + s.2.1 + sg).toNat) hok hR1 h5
      have est : ((s.1 : Int) + s.2.1 + sg).toNat - s.1 = ((s.2.1 : Int) + sg).toNat := by omega
      rw [est] at es
      have hoff2 := hoff.trans e3
      refine ⟨m2, by rw [hP]; rfl, kpR_c hoff2 (e4.trans hsz), fun _ => ⟨⟨t1.on hoff2 hrr t4, (hoff2.R hrr).trans t2, t3, t4, ?_, ?_, (hoff2.I hrr).trans t7⟩, ?_⟩⟩
      · rw [hP]; show coR m2 (r + 1) _; rw [← es]; exact e2
      · rw [hP]; show csOk _; rw [← es]; exact stepA_ok t6 ht2
      · rw [hP]
        refine ⟨(hoff2.I hrr).trans h11, (hoff2.I hrr).trans r12, (e5 10 (by omega)).trans hwe.2.2.2.2.2.1, ?_⟩
        rw [e5 9 (by omega), hwe.2.2.2.2.1, xor_d, ew]
