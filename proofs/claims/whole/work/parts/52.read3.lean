/-! ===== the reader: a point read whole ===== -/
def rd3 (K : Kn) (r : Nat) (z4 : Int64) (q5 : Mem) : Option (Int32 × Mem) :=
  if (gI q5 r 10) = 0 then
    (ldO K q5 r 0 1).bind fun b7 =>
    bd (((gI q5 b7 1).toInt64) + z4) fun z8 =>
    (ldO K q5 r 0 1).bind fun b9 =>
    bd (((gI q5 b9 0).toInt64) + z8) fun z10 =>
    if (lg_cmp z8 (1 : Int64)) < 0 then
      some ((3 : Int32), q5)
    else
      if (lg_cmp z10 (2000000000 : Int64)) ≤ 0 then
        if (gI q5 r 16) = 0 then
          (ldO K q5 r 0 1).bind fun b14 =>
          (ldO K q5 r 0 1).bind fun b15 =>
          (F_X1_weigh K q5 b14 ((z10).toInt32) ((gJ q5 b15 2) ^^^ (gJ q5 r 15))).bind fun q16 =>
          (F_X6_isToldSo K q16 r).bind fun q17 =>
          if q17 = 0 then
            some ((4 : Int32), q16)
          else
            (ldO K q16 r 0 1).bind fun b19 =>
            (F_X1_step K q16 b19).bind fun q20 =>
            some ((0 : Int32), q20)
        else
          some ((4 : Int32), q5)
      else
        some ((3 : Int32), q5)
  else
    some ((2 : Int32), q5)
def rd2 (K : Kn) (r : Nat) (q3 : Int64 × Mem) : Option (Int32 × Mem) := (F_X6_takeValue K q3.2 r).bind fun q5 => rd3 K r q3.1 q5
def rd1 (K : Kn) (r : Nat) (q1 : Int32 × Mem) : Option (Int32 × Mem) := (F_X6_takeSecond K (sI q1.2 r 11 q1.1) r (gI (sI q1.2 r 11 q1.1) r 11)).bind (rd2 K r)
theorem read_u {K : Kn} {m : Mem} {r : Nat} : F_X6_read K m r = (F_X6_takeKind K m r).bind (rd1 K r) := rfl
theorem rd2_en {K : Kn} {m : Mem} {r β : Nat} {by_ : Nat → Nat} {lim : Nat} {v : Int64} (he : enR K m r β by_ lim) : ∃ m', rd2 K r (v, m) = some (nI 2, m') ∧ kpR r m m' := by
  obtain ⟨m', e1, e2, e3⟩ := en_value he
  unfold rd2
  rw [e1, bind_e]
  unfold rd3
  rw [if_neg (by rw [e2.2.2.2.2]; decide)]
  exact ⟨m', rfl, e3⟩
theorem rd1_en {K : Kn} {m : Mem} {r β : Nat} {by_ : Nat → Nat} {lim k : Nat} (he : enR K m r β by_ lim) (hk : k ≤ 4) : ∃ m', rd1 K r (nI k, m) = some (nI 2, m') ∧ kpR r m m' := by
  unfold rd1
  dsimp only
  rw [gI_sI_s]
  obtain ⟨v, m1, e1, e2, e3⟩ := en_second (he.put (k := 11) (v := nI k) (by omega)) hk
  rw [e1, bind_e]
  obtain ⟨m2, g1, g2⟩ := rd2_en (v := v) e2
  exact ⟨m2, g1, ((kpR_sI (by omega)).trans e3).trans g2⟩
theorem lgZ_lt {a b : Int} (h1 : -9223372036854775808 ≤ a) (h2 : a < 9223372036854775808) (h3 : -9223372036854775808 ≤ b) (h4 : b < 9223372036854775808) : lg_cmp (lZ a) (lZ b) < 0 ↔ a < b := by
  rw [lg_cmp_lt, fa_lt64, lZ_toInt h1 h2, lZ_toInt h3 h4]
theorem lgZ_le {a b : Int} (h1 : -9223372036854775808 ≤ a) (h2 : a < 9223372036854775808) (h3 : -9223372036854775808 ≤ b) (h4 : b < 9223372036854775808) : lg_cmp (lZ a) (lZ b) ≤ 0 ↔ a ≤ b := by
  rw [lg_cmp_le, fa_le64, lZ_toInt h1 h2, lZ_toInt h3 h4]
theorem read_ok {K : Kn} {m : Mem} {r β : Nat} {by_ : Nat → Nat} {p L : Nat} {s : Cs} (h : reR K m r β by_ (112 + p) (112 + L) s) :
    ∃ m', F_X6_read K m r = some (nI (rdP (fb by_ L) L s p).1, m') ∧ kpR r m m' ∧ ((rdP (fb by_ L) L s p).1 = 0 → reR K m' r β by_ (112 + (rdP (fb by_ L) L s p).2.1) (112 + L) (rdP (fb by_ L) L s p).2.2.1 ∧ rdR m' r s (rdP (fb by_ L) L s p)) := by
  rw [read_u]
  have hend := rdV_end (fb by_ L) s.2.2.2 (p + kwid (kindR (fb by_ L) p) + cwid (kindR (fb by_ L) p))
  have hk := kindR_le (fb by_ L) p
  obtain ⟨A, E⟩ := takeKind_ok h
  have hl16 : 112 + L ≤ 1600 := h.1.2.2.2.2.2.1
  by_cases c1 : p + kwid (kindR (fb by_ L) p) ≤ L
  · rw [A c1, bind_e]
    have hr0 : reR K (sI m r 8 (nI (112 + (p + kwid (kindR (fb by_ L) p))))) r β by_ (112 + (p + kwid (kindR (fb by_ L) p))) (112 + L) s := by
      obtain ⟨h1, h2, h3, h4, h5, h6, h7⟩ := h
      exact ⟨h1.at (by omega), h2, h3, h4, h5.sI (by omega), h6, by rw [gI_sI_n (Or.inr (by decide))]; exact h7⟩
    have hk0 : kpR r m (sI m r 8 (nI (112 + (p + kwid (kindR (fb by_ L) p))))) := kpR_sI (by omega)
    generalize sI m r 8 (nI (112 + (p + kwid (kindR (fb by_ L) p)))) = m0 at hr0 hk0 ⊢
    unfold rd1
    dsimp only
    rw [gI_sI_s]
    have hr1 := hr0.put (k := 11) (v := nI (kindR (fb by_ L) p)) (by omega)
    obtain ⟨A2, E2⟩ := takeSecond_ok hr1 hk
    have k11 : gI (sI m0 r 11 (nI (kindR (fb by_ L) p))) r 11 = nI (kindR (fb by_ L) p) := gI_sI_s
    have hk1 : kpR r m (sI m0 r 11 (nI (kindR (fb by_ L) p))) := hk0.trans (kpR_sI (by omega))
    generalize sI m0 r 11 (nI (kindR (fb by_ L) p)) = m1 at hr1 A2 E2 k11 hk1 ⊢
    by_cases c2 : p + kwid (kindR (fb by_ L) p) + cwid (kindR (fb by_ L) p) ≤ L
    · obtain ⟨e2, hr2⟩ := A2 c2
      rw [e2, bind_e]
      have k11' : gI (sI m1 r 8 (nI (112 + (p + kwid (kindR (fb by_ L) p) + cwid (kindR (fb by_ L) p))))) r 11 = nI (kindR (fb by_ L) p) := by rw [gI_sI_n (Or.inr (by decide))]; exact k11
      have hk2 : kpR r m (sI m1 r 8 (nI (112 + (p + kwid (kindR (fb by_ L) p) + cwid (kindR (fb by_ L) p))))) := hk1.trans (kpR_sI (by omega))
      generalize sI m1 r 8 (nI (112 + (p + kwid (kindR (fb by_ L) p) + cwid (kindR (fb by_ L) p)))) = m2 at hr2 k11' hk2 ⊢
      obtain ⟨A3, E3⟩ := takeValue_ok hr2
      unfold rd2
      dsimp only
      by_cases c3 : (rdV (fb by_ L) s.2.2.2 (p + kwid (kindR (fb by_ L) p) + cwid (kindR (fb by_ L) p))).2.2.2.2 ≤ L
      · obtain ⟨m3, e3, hr3, hk3, k3, hv3⟩ := A3 c3
        rw [e3, bind_e]
        have hv : num (fb by_ L) (p + kwid (kindR (fb by_ L) p)) (cwid (kindR (fb by_ L) p)) < 2 ^ cwid (kindR (fb by_ L) p) := num_lt (fb_lt by_ L) _ _
        obtain ⟨sh1, sh5, sh7, sh70⟩ := rdV_shape (fb_lt by_ L) s.2.2.2 (p + kwid (kindR (fb by_ L) p) + cwid (kindR (fb by_ L) p))
        unfold rdP
        dsimp only
        rw [if_neg (show ¬ L < _ by omega)]
        generalize rdV (fb by_ L) s.2.2.2 (p + kwid (kindR (fb by_ L) p) + cwid (kindR (fb by_ L) p)) = R at hr3 hv3 sh1 sh5 sh7 sh70 c3 hend ⊢
        generalize num (fb by_ L) (p + kwid (kindR (fb by_ L) p)) (cwid (kindR (fb by_ L) p)) = sv at hv ⊢
        generalize kindR (fb by_ L) p = k at hk hv k11' ⊢
        have hkk : kpR r m m3 := hk2.trans hk3
        obtain ⟨t1, t2, t3, t4, t5, t6, t7⟩ := id hr3
        unfold rd3
        simp only [t7, if_true, ldO_n t2 t3, bind_e, bd_e]
        rw [t5.2.1, t5.1]
        have b1 := t6.1
        have b2 := t6.2.1
        rw [nI_long (by omega), nI_long (by omega), ← lZ_nat, ← lZ_nat, lZ_add, lZ_add, show (1 : Int64) = lZ 1 from rfl, show (2000000000 : Int64) = lZ 2000000000 from rfl]
        have bC := sgnC_b hk hv
        rcases sgnC_ne hk hv with hE | ⟨hE1, hE2⟩
        · rw [hE] at bC ⊢
          by_cases c4 : (s.2.1 : Int) + sgnA k sv < 1
          · rw [if_pos ((lgZ_lt (by omega) (by omega) (by omega) (by omega)).mpr c4), if_pos (Or.inl c4)]
            exact ⟨m3, rfl, hkk, fun z => absurd z (by simp)⟩
          · rw [if_neg (fun z => c4 ((lgZ_lt (by omega) (by omega) (by omega) (by omega)).mp z))]
            by_cases c5 : (s.1 : Int) + ((s.2.1 : Int) + sgnA k sv) ≤ 2000000000
            · rw [if_pos ((lgZ_le (by omega) (by omega) (by omega) (by omega)).mpr c5), if_neg (show ¬ ((s.2.1 : Int) + sgnA k sv < 1 ∨ 2000000000 < (s.1 : Int) + s.2.1 + sgnA k sv) by omega)]
              rw [lZ_toI, show iZ ((s.1 : Int) + ((s.2.1 : Int) + sgnA k sv)) = nI ((s.1 : Int) + s.2.1 + sgnA k sv).toNat by rw [← iZ_nat]; congr 1; omega]
              have hx := read_tail (p := p) (q := 112 + R.2.2.2.2) (z4 := 0) (sg := sgnA k sv) (R := R) (k := k) hr3 (k3.trans k11') hk hv3 sh1 sh5 sh7 sh70 (by omega) (by omega) rfl
              simp only [ldO_n t2 t3, bind_e] at hx
              obtain ⟨m', x1, x2, x3⟩ := hx
              refine ⟨m', x1, hkk.trans x2, fun z => ?_⟩
              have := x3 z
              by_cases cc : (kindA (sgnA k sv) == k && okB s.2.2.2 R) = false
              · rw [if_pos cc] at z; exact absurd z (by simp)
              · rw [if_neg cc] at this ⊢; exact this
            · rw [if_neg (fun z => c5 ((lgZ_le (by omega) (by omega) (by omega) (by omega)).mp z)), if_pos (Or.inr (by omega))]
              exact ⟨m3, rfl, hkk, fun z => absurd z (by simp)⟩
        · rw [hE1, hE2]
          rw [if_neg (fun z => absurd ((lgZ_lt (by omega) (by omega) (by omega) (by omega)).mp z) (by omega)), if_neg (fun z => absurd ((lgZ_le (by omega) (by omega) (by omega) (by omega)).mp z) (by omega)), if_pos (Or.inl (by omega))]
          exact ⟨m3, rfl, hkk, fun z => absurd z (by simp)⟩
      · obtain ⟨m3, e3, he3, hk3⟩ := E3 (by omega)
        rw [e3, bind_e]
        unfold rd3 rdP
        dsimp only
        rw [if_neg (by rw [he3.2.2.2.2]; decide), if_pos (show L < _ by omega)]
        exact ⟨m3, rfl, hk2.trans hk3, fun z => absurd z (by simp)⟩
    · obtain ⟨v, m2, e2, he2, hk2⟩ := E2 (by omega)
      rw [e2, bind_e]
      obtain ⟨m3, g1, g2⟩ := rd2_en (v := v) he2
      refine ⟨m3, ?_, hk1.trans (hk2.trans g2), fun z => ?_⟩
      · rw [g1]; unfold rdP; dsimp only; rw [if_pos (show L < _ by omega)]
      · unfold rdP at z; dsimp only at z; rw [if_pos (show L < _ by omega)] at z; exact absurd z (by simp)
  · obtain ⟨k, m1, e1, hk1, he1, hp1⟩ := E (by omega)
    rw [e1, bind_e]
    obtain ⟨m2, g1, g2⟩ := rd1_en he1 hk1
    refine ⟨m2, ?_, hp1.trans g2, fun z => ?_⟩
    · rw [g1]; unfold rdP; dsimp only; rw [if_pos (show L < _ by omega)]
    · unfold rdP at z; dsimp only at z; rw [if_pos (show L < _ by omega)] at z; exact absurd z (by simp)
