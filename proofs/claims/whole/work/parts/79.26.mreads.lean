/-! ===== the reference reads a point, whole ===== -/
theorem nI_nonneg' {n : Nat} (h : n < 2147483648) : (0 : Int32) ≤ nI n := (nI_leI (a := 0) (by omega) (by omega)).mpr (by omega)
theorem ro_59 {K : Kn} {m : Mem} {A q n L p k r : Nat} {by_ : Nat → Nat} {c : Cs} {s : Int} {kok : Bool} {P : Nat × Nat × Cs × Nat × Nat} (h : rM K m A q n by_ L c) (hs : -2147483648 ≤ s ∧ s < 2147483648) (hp : p < 80000) (h26 : gI m A 26 = nI r) (hr : r < 800)
    (hP : P = if L < (rdV (fb by_ L) c.2.2.2 p).2.2.2.2 then (2, (rdV (fb by_ L) c.2.2.2 p).2.2.2.2, c, k, (rdV (fb by_ L) c.2.2.2 p).1) else if (c.2.1 : Int) + s < 1 ∨ 2000000000 < (c.1 : Int) + c.2.1 + s then (3, (rdV (fb by_ L) c.2.2.2 p).2.2.2.2, c, k, (rdV (fb by_ L) c.2.2.2 p).1) else if (kok && okB c.2.2.2 (rdV (fb by_ L) c.2.2.2 p)) = false then (4, (rdV (fb by_ L) c.2.2.2 p).2.2.2.2, c, k, (rdV (fb by_ L) c.2.2.2 p).1) else (0, (rdV (fb by_ L) c.2.2.2 p).2.2.2.2, (((c.1 : Int) + c.2.1 + s).toNat, ((c.2.1 : Int) + s).toNat, c.2.2.1 ^^^ (rdV (fb by_ L) c.2.2.2 p).2.1, if (rdV (fb by_ L) c.2.2.2 p).1 = 7 then some ((rdV (fb by_ L) c.2.2.2 p).2.2.1, 64 - (rdV (fb by_ L) c.2.2.2 p).2.2.1 - (rdV (fb by_ L) c.2.2.2 p).2.2.2.1) else c.2.2.2), k, (rdV (fb by_ L) c.2.2.2 p).1)) :
    roP K m A r P (f_X9_readsOne_59 K A (nI q) (sI m A 20 (nI p)) (nI k) (lZ s) (if kok = true then 1 else 0)) := by
  have hb0 := fb_lt by_ L p
  have hb1 := fb_lt by_ L (p + 1)
  have hw := h.2.2.2.2.2.2.2.2.2
  have hcs := h.2.2.2.2.2.2.1
  have hat : ∀ e, csM (sI m A 20 (nI e)) A c := fun e => hcs.on (W := fun a j => a = A ∧ j = 20) (fr_sI ⟨rfl, rfl⟩) (fun k _ _ z => by omega)
  unfold f_X9_readsOne_59
  rw [bd_e, bd_e, gI_sI_n (Or.inr (by decide)), gI_sI_n (Or.inr (by decide)), show (1 : Int32) = nI 1 from rfl, gets_at h (by omega) (by omega), bind_e]
  dsimp only
  rw [num_one, show (1 : Int64) = lN 1 from rfl]
  by_cases c0 : fb by_ L p = 0
  · have eR : rdV (fb by_ L) c.2.2.2 p = (5, 0, 0, 0, p + 1) := by unfold rdV; rw [if_pos c0]
    rw [eR] at hP
    dsimp only at hP
    rw [if_neg (fun z => by have := (lgN (by omega) (by omega)).mp z; omega)]
    have ok5 : okB c.2.2.2 (5, 0, 0, 0, p + 1) = true := rfl
    rw [ok5, Bool.and_true] at hP
    exact ro_248 (way := 5) (e := p + 1) (a := 0) (z := 64 - 0 - 0) h hs (by omega) (by omega) (fun z => by omega) h26 hr hP
  rw [if_pos ((lgN (by omega) (by omega)).mpr (by omega)), gets_at h (by omega) (by omega), bind_e]
  dsimp only
  rw [num_one, show (0 : Int64) = lN 0 from rfl, show p + 1 + 1 = p + 2 from rfl]
  by_cases c1 : fb by_ L (p + 1) = 0
  · have eR : rdV (fb by_ L) c.2.2.2 p = (6, lN (num (fb by_ L) (p + 2) (winW c.2.2.2) * 2 ^ winT c.2.2.2), 0, 0, p + 2 + winW c.2.2.2) := by unfold rdV; rw [if_neg c0, if_pos c1]
    rw [eR] at hP
    dsimp only at hP
    rw [if_pos ((lgN (by omega) (by omega)).mpr c1)]
    unfold f_X9_readsOne_108
    rw [if_neg (by decide), gI_sI_n (Or.inr (by decide))]
    have h4 := hcs.2.2.2
    cases hc : c.2.2.2 with
    | none =>
      rw [hc] at h4 hw
      rw [if_pos h4]
      have e0 : lN (num (fb by_ L) (p + 2) (winW none) * 2 ^ winT none) = 0 := by
        show lN (0 * 1) = 0; rfl
      have e1 : f_X9_readsOne_182 K A (nI q) (sI m A 20 (nI (p + 2))) (nI k) (lZ s) (if kok = true then nI 1 else 0) (lN 0) (6 : Int32) (gI m A 17) (gI m A 18) = f_X9_readsOne_196 K A (nI q) (sI m A 20 (nI (p + 2))) (nI k) (lZ s) (if kok = true then 1 else 0) (nI 6) (gI m A 17) (gI m A 18) 0 := by
        unfold f_X9_readsOne_182
        rw [show lN 0 = (0 : Int64) from rfl, lsh_zero]
        split <;> rfl
      have hw' : winOk c.2.2.2 := by rw [hc]; exact hw
      rw [e1, ro_196 (a := 0) (w := 0) (way := 6) (hat _) hw' (Or.inl rfl) (fun z => by omega) (R := (6, lN (num (fb by_ L) (p + 2) (winW none) * 2 ^ winT none), 0, 0, p + 2 + winW none)) rfl e0 (fun z => by omega)]
      rw [hc] at hP
      rw [e0] at hP ⊢
      rw [show p + 2 + winW none = p + 2 from rfl] at hP ⊢
      rw [hc]
      rw [← hc] at hP ⊢
      exact ro_248 (a := 0) (z := 64 - 0 - 0) h hs (by omega) (by omega) (fun z => by omega) h26 hr hP
    | some w =>
      rw [hc] at h4 hw
      obtain ⟨g1, g2, g3⟩ := h4
      have hw1 : w.1 ≤ 31 ∧ w.1 + w.2 ≤ 63 := hw
      rw [g1, if_neg (by decide), g2, g3, show (64 : Int32) = nI 64 from rfl, pk_sub (by omega), pk_sub (by omega), gets_at h (by omega) (by omega), bind_e, bd_e]
      dsimp only
      have hw' : winOk c.2.2.2 := by rw [hc]; exact hw
      have e1 : f_X9_readsOne_182 K A (nI q) (sI m A 20 (nI (p + 2 + (64 - w.1 - w.2)))) (nI k) (lZ s) (if kok = true then nI 1 else 0) (lN (num (fb by_ L) (p + 2) (64 - w.1 - w.2))) (6 : Int32) (nI w.1) (nI w.2) = f_X9_readsOne_196 K A (nI q) (sI m A 20 (nI (p + 2 + (64 - w.1 - w.2)))) (nI k) (lZ s) (if kok = true then 1 else 0) (nI 6) (nI w.1) (nI w.2) (lN (num (fb by_ L) (p + 2) (64 - w.1 - w.2) * 2 ^ w.2)) := by
        unfold f_X9_readsOne_182
        rw [if_pos (nI_nonneg' (by omega)), lshl_N (by omega)]
        rfl
      rw [e1, ro_196 (a := 0) (w := 0) (way := 6) (hat _) hw' (Or.inl rfl) (fun z => by omega) (R := (6, lN (num (fb by_ L) (p + 2) (64 - w.1 - w.2) * 2 ^ w.2), 0, 0, p + 2 + (64 - w.1 - w.2))) rfl rfl (fun z => by omega)]
      have eW : winW c.2.2.2 = 64 - w.1 - w.2 := by rw [hc]; rfl
      have eT : winT c.2.2.2 = w.2 := by rw [hc]; rfl
      rw [eW, eT] at hP
      exact ro_248 (a := 0) (z := 64 - 0 - 0) h hs (by omega) (by omega) (fun z => by omega) h26 hr hP
  · rw [if_neg (fun z => c1 ((lgN (by omega) (by omega)).mp z))]
    have n5 := num_lt (fb_lt by_ L) (p + 2) 5
    have n6 := num_lt (fb_lt by_ L) (p + 7) 6
    have eR : rdV (fb by_ L) c.2.2.2 p = (7, if 64 < num (fb by_ L) (p + 2) 5 + (num (fb by_ L) (p + 7) 6 + 1) then 0 else lN (num (fb by_ L) (p + 13) (num (fb by_ L) (p + 7) 6 + 1) * 2 ^ (64 - num (fb by_ L) (p + 2) 5 - (num (fb by_ L) (p + 7) 6 + 1))), num (fb by_ L) (p + 2) 5, num (fb by_ L) (p + 7) 6 + 1, p + 13 + (num (fb by_ L) (p + 7) 6 + 1)) := by unfold rdV; rw [if_neg c0, if_neg c1]
    rw [eR] at hP
    unfold f_X9_readsOne_108
    rw [if_pos rfl, show (5 : Int32) = nI 5 from rfl, gets_at h (by omega) (by omega), bind_e]
    dsimp only
    rw [show (6 : Int32) = nI 6 from rfl, bd_e, show p + 2 + 5 = p + 7 from rfl, gets_at h (by omega) (by omega), bind_e]
    dsimp only
    rw [l2i_lN, l2i_lN, bd_e, bd_e, nI_1, show p + 7 + 6 = p + 13 from rfl]
    have nw : num (fb by_ L) (p + 7) 6 + 1 ≤ 64 := by omega
    have nw1 : 1 ≤ num (fb by_ L) (p + 7) 6 + 1 := by omega
    generalize num (fb by_ L) (p + 2) 5 = a at n5 hP ⊢
    generalize num (fb by_ L) (p + 7) 6 + 1 = w at nw nw1 hP ⊢
    rw [gets_at h (by omega) (by omega), bind_e, bd_e]
    dsimp only at hP ⊢
    have n5 : a ≤ 31 := by omega
    have hM := hat (p + 13 + w)
    generalize num (fb by_ L) (p + 13) w = N at hP ⊢
    by_cases d : 64 < a + w
    · rw [if_pos d] at hP
      have e10 : (64 : Int32) - nI a - nI w = iZ (64 - a - w) := by
        rw [show (64 : Int32) = iZ 64 from rfl, ← iZ_nat, ← iZ_nat, iZ_sub, iZ_sub]
      have e1 : f_X9_readsOne_182 K A (nI q) (sI m A 20 (nI (p + 13 + w))) (nI k) (lZ s) (if kok = true then nI 1 else 0) (lN N) (7 : Int32) (nI a) ((64 : Int32) - nI a - nI w) = f_X9_readsOne_196 K A (nI q) (sI m A 20 (nI (p + 13 + w))) (nI k) (lZ s) (if kok = true then 1 else 0) (nI 7) (nI a) ((64 : Int32) - nI a - nI w) 0 := by
        unfold f_X9_readsOne_182
        rw [if_neg (fun z => by
          rw [e10] at z
          have z := (fa_le _ _).mp z
          rw [iZ_toInt (by omega) (by omega)] at z
          have z : (0 : Int) ≤ 64 - a - w := z
          omega)]
        rfl
      rw [e1, ro_196 (a := a) (w := w) (way := 7) hM hw (Or.inr rfl) (fun _ => ⟨n5, nw, rfl, Or.inl rfl⟩) (R := (7, 0, a, w, p + 13 + w)) rfl rfl (fun _ => ⟨rfl, rfl⟩)]
      refine ro_248 (a := a) (z := 64 - a - w) h hs (by omega) (by omega) (fun _ z => ?_) h26 hr hP
      exfalso
      have : okB c.2.2.2 (7, 0, a, w, p + 13 + w) = false := by
        unfold okB
        dsimp only
        rw [wayA_0]; rfl
      rw [this, Bool.and_false] at z
      cases z
    · rw [if_neg d] at hP
      have e10 : (64 : Int32) - nI a - nI w = nI (64 - a - w) := by
        rw [show (64 : Int32) = nI 64 from rfl, pk_sub (by omega), pk_sub (by omega)]
      rw [e10]
      have e1 : f_X9_readsOne_182 K A (nI q) (sI m A 20 (nI (p + 13 + w))) (nI k) (lZ s) (if kok = true then nI 1 else 0) (lN N) (7 : Int32) (nI a) (nI (64 - a - w)) = f_X9_readsOne_196 K A (nI q) (sI m A 20 (nI (p + 13 + w))) (nI k) (lZ s) (if kok = true then 1 else 0) (nI 7) (nI a) (nI (64 - a - w)) (lN (N * 2 ^ (64 - a - w))) := by
        unfold f_X9_readsOne_182
        rw [if_pos (nI_nonneg' (by omega)), lshl_N (by omega)]
        rfl
      rw [e1, ro_196 (a := a) (w := w) (way := 7) hM hw (Or.inr rfl) (fun _ => ⟨n5, nw, rfl, Or.inr ⟨by omega, rfl⟩⟩) (R := (7, lN (N * 2 ^ (64 - a - w)), a, w, p + 13 + w)) rfl rfl (fun _ => ⟨rfl, rfl⟩)]
      exact ro_248 (a := a) (z := 64 - a - w) h hs (by omega) (by omega) (fun _ _ => ⟨rfl, rfl⟩) h26 hr hP
theorem readsOne_ok {K : Kn} {m : Mem} {A q n L p r : Nat} {by_ : Nat → Nat} {c : Cs} (h : rM K m A q n by_ L c) (hp : p < 80000 - 100) (h20 : gI m A 20 = nI p) (h26 : gI m A 26 = nI r) (hr : r < 800) : roP K m A r (rdP (fb by_ L) L c p) (F_X9_readsOne K m A (nI q)) := by
  unfold F_X9_readsOne f_X9_readsOne
  have hk := kindR_le (fb by_ L) p
  have e0 := ro_kind h (p := p) (by omega)
  rw [sI_same h20] at e0
  have hkw : kwid (kindR (fb by_ L) p) ≤ 4 ∧ cwid (kindR (fb by_ L) p) ≤ 32 := by
    rcases (show kindR (fb by_ L) p = 0 ∨ kindR (fb by_ L) p = 1 ∨ kindR (fb by_ L) p = 2 ∨ kindR (fb by_ L) p = 3 ∨ kindR (fb by_ L) p = 4 by omega) with h | h | h | h | h <;> rw [h] <;> decide
  rw [e0, ro_24 h (by omega) hk]
  have hnl := num_lt (fb_lt by_ L) (p + kwid (kindR (fb by_ L) p)) (cwid (kindR (fb by_ L) p))
  have hs := sgnA_b hk hnl
  have eb : (if kindA (sgnA (kindR (fb by_ L) p) (num (fb by_ L) (p + kwid (kindR (fb by_ L) p)) (cwid (kindR (fb by_ L) p)))) = kindR (fb by_ L) p then (1 : Int32) else 0) = if (kindA (sgnA (kindR (fb by_ L) p) (num (fb by_ L) (p + kwid (kindR (fb by_ L) p)) (cwid (kindR (fb by_ L) p)))) == kindR (fb by_ L) p) = true then 1 else 0 := by
    simp only [beq_iff_eq]
  rw [eb]
  exact ro_59 h hs (by omega) h26 hr (by unfold rdP; rfl)
