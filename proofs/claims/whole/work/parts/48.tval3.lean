/-! ===== the reader: a value whole ===== -/
/-- what a value taken leaves in the reader -/
def tvR (m' : Mem) (r : Nat) (R : Nat × Int64 × Nat × Nat × Nat) : Prop := gI m' r 12 = nI R.1 ∧ gJ m' r 15 = R.2.1 ∧ gI m' r 16 = (if R.1 = 7 ∧ 64 < R.2.2.1 + R.2.2.2.1 then 1 else 0) ∧ (R.1 = 7 → gI m' r 13 = nI R.2.2.1 ∧ (R.2.2.1 + R.2.2.2.1 ≤ 64 → gI m' r 14 = nI (64 - R.2.2.1 - R.2.2.2.1)))
theorem tvM_kp {r : Nat} {m : Mem} {x : Int32} {d : Int64} : kpR r m (tvM m r x d) := (kpR_sI (by omega)).trans kpR_sJ
theorem tv7_ok {K : Kn} {m : Mem} {r β : Nat} {by_ : Nat → Nat} {p L : Nat} {s : Cs} (h : reR K m r β by_ (112 + (p + 2)) (112 + L) s) (h0 : ¬ fb by_ L p = 0) (h1 : ¬ fb by_ L (p + 1) = 0) :
    ((rdV (fb by_ L) s.2.2.2 p).2.2.2.2 ≤ L → ∃ m', tv7 K m r = some m' ∧ reR K m' r β by_ (112 + (rdV (fb by_ L) s.2.2.2 p).2.2.2.2) (112 + L) s ∧ kpR r m m' ∧ gI m' r 11 = gI m r 11 ∧ tvR m' r (rdV (fb by_ L) s.2.2.2 p)) ∧
    (L < (rdV (fb by_ L) s.2.2.2 p).2.2.2.2 → ∃ m', tv7 K m r = some m' ∧ enR K m' r β by_ (112 + L) ∧ kpR r m m') := by
  have eR : rdV (fb by_ L) s.2.2.2 p = (7, if 64 < num (fb by_ L) (p + 2) 5 + (num (fb by_ L) (p + 7) 6 + 1) then 0 else lN (num (fb by_ L) (p + 13) (num (fb by_ L) (p + 7) 6 + 1) * 2 ^ (64 - num (fb by_ L) (p + 2) 5 - (num (fb by_ L) (p + 7) 6 + 1))), num (fb by_ L) (p + 2) 5, num (fb by_ L) (p + 7) 6 + 1, p + 13 + (num (fb by_ L) (p + 7) 6 + 1)) := by
    unfold rdV; rw [if_neg h0, if_neg h1]
  rw [eR]
  have b5 : num (fb by_ L) (p + 2) 5 < 32 := num_lt (fb_lt by_ L) _ 5
  have b6 : num (fb by_ L) (p + 7) 6 < 64 := num_lt (fb_lt by_ L) _ 6
  generalize hl : num (fb by_ L) (p + 2) 5 = l at b5 ⊢
  generalize hw : num (fb by_ L) (p + 7) 6 = w at b6 ⊢
  dsimp only
  unfold tv7
  simp only [bd_e]
  have hr := h.put (k := 12) (v := 7) (by omega)
  by_cases c5 : p + 7 ≤ L
  · obtain ⟨e1, hr1⟩ := re_take hr (w := 5) (by omega) (by omega)
    rw [show 112 + (p + 2) + 5 = 112 + (p + 7) by omega] at e1 hr1
    rw [num_fb (by omega), hl] at e1
    rw [show (5 : Int32) = nI 5 from rfl, e1, bind_e]
    simp only
    rw [lN_toI]
    have hr2 := hr1.put (k := 13) (v := nI l) (by omega)
    by_cases c6 : p + 13 ≤ L
    · obtain ⟨e2, hr3⟩ := re_take hr2 (w := 6) (by omega) (by omega)
      rw [show 112 + (p + 7) + 6 = 112 + (p + 13) by omega] at e2 hr3
      rw [num_fb (by omega), hw] at e2
      rw [show (6 : Int32) = nI 6 from rfl, e2, bind_e]
      simp only
      rw [lN_toI, show (1 : Int32) = nI 1 from rfl, nI_add]
      have g13 : gI (sI (sI (sI (sI m r 12 7) r 8 (nI (112 + (p + 7)))) r 13 (nI l)) r 8 (nI (112 + (p + 13)))) r 13 = nI l := by rw [gI_sI_n (Or.inr (by decide)), gI_sI_s]
      rw [g13]
      have ez : (64 : Int32) - nI l - nI (w + 1) = iZ (64 - (l : Int) - (w + 1 : Nat)) := by
        rw [← iZ_nat, ← iZ_nat, show (64 : Int32) = iZ 64 from rfl, iZ_sub, iZ_sub]
      rw [ez]
      have hr4 := hr3.put (k := 14) (v := iZ (64 - (l : Int) - (w + 1 : Nat))) (by omega)
      obtain ⟨A, E⟩ := tv_ok (w := w + 1) (t := 64 - (l : Int) - (w + 1 : Nat)) hr4 (by omega) (by omega) (by omega) gI_sI_s
      refine ⟨fun z => ?_, fun z => ?_⟩
      · obtain ⟨A1, A2⟩ := A (by omega)
        refine ⟨_, A1, by rw [← Nat.add_assoc] at A2; exact A2, ?_, ?_, ?_⟩
        · refine kpR.trans ?_ tvM_kp
          refine kpR.trans ?_ (kpR_sI (by omega))
          refine kpR.trans ?_ (kpR_sI (by omega))
          refine kpR.trans ?_ (kpR_sI (by omega))
          refine kpR.trans ?_ (kpR_sI (by omega))
          refine kpR.trans ?_ (kpR_sI (by omega))
          exact kpR_sI (by omega)
        · simp [tvM, gI_sJ, gI_sIa]
        · unfold tvR
          dsimp only
          refine ⟨by simp [tvM, gI_sJ, gI_sIa]; rfl, ?_, ?_, fun _ => ⟨by simp [tvM, gI_sJ, gI_sIa], fun z2 => ?_⟩⟩
          · rw [show gJ (tvM _ r _ _) r 15 = _ from gJ_sJ_s]
            by_cases c : 64 < l + (w + 1)
            · rw [if_pos (by omega), if_pos c]
            · rw [if_neg (by omega), if_neg c, show (64 - (l : Int) - (w + 1 : Nat)).toNat = 64 - l - (w + 1) by omega]
          · have : gI (tvM (sI (sI (sI (sI (sI (sI m r 12 7) r 8 (nI (112 + (p + 7)))) r 13 (nI l)) r 8 (nI (112 + (p + 13)))) r 14 (iZ (64 - (l : Int) - (w + 1 : Nat)))) r 8 (nI (112 + (p + 13 + (w + 1))))) r (if 64 - (l : Int) - (w + 1 : Nat) < 0 then 1 else 0) (if 64 - (l : Int) - (w + 1 : Nat) < 0 then 0 else lN (num (fb by_ L) (p + 13) (w + 1) * 2 ^ (64 - (l : Int) - (w + 1 : Nat)).toNat))) r 16 = if 64 - (l : Int) - (w + 1 : Nat) < 0 then 1 else 0 := by rw [tvM, gI_sJ, gI_sI_s]
            rw [this]
            by_cases c : 64 < l + (w + 1)
            · rw [if_pos (by omega), if_pos ⟨rfl, c⟩]
            · rw [if_neg (by omega), if_neg (fun z => c z.2)]
          · rw [tvM, gI_sJ, gI_sI_n (Or.inr (by decide)), gI_sI_n (Or.inr (by decide)), gI_sI_s]
            rw [← iZ_nat, show ((64 - l - (w + 1) : Nat) : Int) = 64 - (l : Int) - (w + 1 : Nat) by omega]
      · obtain ⟨m2, g1, g2, g3⟩ := E (by omega)
        refine ⟨m2, g1, g2, ?_⟩
        refine kpR.trans ?_ g3
        refine kpR.trans ?_ (kpR_sI (by omega))
        refine kpR.trans ?_ (kpR_sI (by omega))
        refine kpR.trans ?_ (kpR_sI (by omega))
        refine kpR.trans ?_ (kpR_sI (by omega))
        exact kpR_sI (by omega)
    · refine ⟨fun z => by omega, fun _ => ?_⟩
      obtain ⟨e2, he⟩ := re_end hr2 (w := 6) (by omega) (by omega)
      rw [show (6 : Int32) = nI 6 from rfl, e2, bind_e]
      simp only
      have e0 : ((0 : Int64).toInt32 + (1 : Int32)) = nI 1 := rfl
      rw [e0]
      obtain ⟨m2, g1, g2, g3⟩ := tv_ends (w := 1) (he.put (k := 14) (v := (64 : Int32) - gI (sI (sI (sI (sI m r 12 7) r 8 (nI (112 + (p + 7)))) r 13 (nI l)) r 10 1) r 13 - nI 1) (by omega)) (by omega)
      refine ⟨m2, g1, g2, ?_⟩
      refine kpR.trans ?_ g3
      refine kpR.trans ?_ (kpR_sI (by omega))
      refine kpR.trans ?_ (kpR_sI (by omega))
      refine kpR.trans ?_ (kpR_sI (by omega))
      refine kpR.trans ?_ (kpR_sI (by omega))
      exact kpR_sI (by omega)
  · refine ⟨fun z => by omega, fun _ => ?_⟩
    obtain ⟨e1, he⟩ := re_end hr (w := 5) (by omega) (by omega)
    rw [show (5 : Int32) = nI 5 from rfl, e1, bind_e]
    simp only
    obtain ⟨m2, g1, g2, g3⟩ := tv7_en (he.put (k := 13) (v := (0 : Int64).toInt32) (by omega))
    refine ⟨m2, g1, g2, ?_⟩
    refine kpR.trans ?_ g3
    refine kpR.trans ?_ (kpR_sI (by omega))
    refine kpR.trans ?_ (kpR_sI (by omega))
    exact kpR_sI (by omega)
