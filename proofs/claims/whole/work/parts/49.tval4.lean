theorem lgN0 {a : Nat} (ha : a < 2147483648) : lg_cmp (lN a) (0 : Int64) = 0 ↔ a = 0 := lgN (b := 0) ha (by decide)
theorem takeValue_u {K : Kn} {m : Mem} {r : Nat} : F_X6_takeValue K m r = (F_X6_takeBits K (sI (sI m r 13 0) r 14 0) r (1 : Int32)).bind fun q3 => if (lg_cmp q3.1 (0 : Int64)) = 0 then f_X6_takeValue_130 K r (sI q3.2 r 12 5) (0 : Int32) else (F_X6_takeBits K q3.2 r (1 : Int32)).bind fun q6 => if (lg_cmp q6.1 (0 : Int64)) = 0 then tv6 K q6.2 r else tv7 K q6.2 r := rfl
theorem tvM11 {m : Mem} {r : Nat} {x : Int32} {d : Int64} : gI (tvM m r x d) r 11 = gI m r 11 := by rw [tvM, gI_sJ, gI_sI_n (Or.inr (by decide))]
theorem takeValue_ok {K : Kn} {m : Mem} {r β : Nat} {by_ : Nat → Nat} {p L : Nat} {s : Cs} (h : reR K m r β by_ (112 + p) (112 + L) s) :
    ((rdV (fb by_ L) s.2.2.2 p).2.2.2.2 ≤ L → ∃ m', F_X6_takeValue K m r = some m' ∧ reR K m' r β by_ (112 + (rdV (fb by_ L) s.2.2.2 p).2.2.2.2) (112 + L) s ∧ kpR r m m' ∧ gI m' r 11 = gI m r 11 ∧ tvR m' r (rdV (fb by_ L) s.2.2.2 p)) ∧
    (L < (rdV (fb by_ L) s.2.2.2 p).2.2.2.2 → ∃ m', F_X6_takeValue K m r = some m' ∧ enR K m' r β by_ (112 + L) ∧ kpR r m m') := by
  rw [takeValue_u]
  have hr := (h.put (k := 13) (v := 0) (by omega)).put (k := 14) (v := 0) (by omega)
  have hk0 : kpR r m (sI (sI m r 13 0) r 14 0) := (kpR_sI (by omega)).trans (kpR_sI (by omega))
  have k11 : gI (sI (sI m r 13 0) r 14 0) r 11 = gI m r 11 := by simp [gI_sIa]
  have k14 : gI (sI (sI m r 13 0) r 14 0) r 14 = iZ 0 := gI_sI_s
  have k13 : gI (sI (sI m r 13 0) r 14 0) r 13 = nI 0 := by simp [gI_sIa]; rfl
  generalize sI (sI m r 13 0) r 14 0 = m0 at hr hk0 k11 k14 k13 ⊢
  have hend := rdV_end (fb by_ L) s.2.2.2 p
  rw [show (1 : Int32) = nI 1 from rfl]
  by_cases c1 : p + 1 ≤ L
  · obtain ⟨e1, hr1⟩ := re_take hr (w := 1) (by omega) (by omega)
    rw [show 112 + p + 1 = 112 + (p + 1) by omega] at e1 hr1
    rw [num1, ← fb_in (L := L) (show p < L by omega)] at e1
    rw [e1, bind_e]
    have b0 := fb_lt by_ L p
    have hk1 : kpR r m (sI m0 r 8 (nI (112 + (p + 1)))) := hk0.trans (kpR_sI (by omega))
    dsimp only
    by_cases c0 : fb by_ L p = 0
    · rw [if_pos (by rw [c0]; rfl)]
      have eR : rdV (fb by_ L) s.2.2.2 p = (5, 0, 0, 0, p + 1) := by unfold rdV; rw [if_pos c0]
      rw [eR]
      dsimp only
      refine ⟨fun _ => ?_, fun z => by omega⟩
      have hr2 := hr1.put (k := 12) (v := 5) (by omega)
      obtain ⟨A, -⟩ := tv_ok (w := 0) (t := 0) hr2 (by omega) (by omega) (by omega) (by rw [gI_sI_n (Or.inr (by decide)), gI_sI_n (Or.inr (by decide)), k14])
      obtain ⟨A1, A2⟩ := A (by omega)
      refine ⟨_, A1, A2, ?_, ?_, ?_⟩
      · refine kpR.trans ?_ tvM_kp
        refine kpR.trans ?_ (kpR_sI (by omega))
        exact hk1.trans (kpR_sI (by omega))
      · rw [tvM11, ← k11]; simp [gI_sIa]
      · unfold tvR
        refine ⟨by simp [tvM, gI_sJ, gI_sIa]; rfl, by simp [tvM, gJ_sJa, num]; rfl, by simp [tvM, gI_sJ, gI_sIa], fun z => by simp at z⟩
    rw [if_neg (fun z => c0 ((lgN0 (by omega)).mp z))]
    by_cases c2 : p + 2 ≤ L
    · obtain ⟨e2, hr2⟩ := re_take hr1 (w := 1) (by omega) (by omega)
      rw [show 112 + (p + 1) + 1 = 112 + (p + 2) by omega] at e2 hr2
      rw [num1, ← fb_in (L := L) (show p + 1 < L by omega)] at e2
      rw [e2, bind_e]
      have b1 := fb_lt by_ L (p + 1)
      have hk2 : kpR r m (sI (sI m0 r 8 (nI (112 + (p + 1)))) r 8 (nI (112 + (p + 2)))) := hk1.trans (kpR_sI (by omega))
      dsimp only
      by_cases c3 : fb by_ L (p + 1) = 0
      · rw [if_pos (by rw [c3]; rfl)]
        have eR : rdV (fb by_ L) s.2.2.2 p = (6, lN (num (fb by_ L) (p + 2) (winW s.2.2.2) * 2 ^ winT s.2.2.2), 0, 0, p + 2 + winW s.2.2.2) := by unfold rdV; rw [if_neg c0, if_pos c3]
        rw [eR]
        dsimp only
        rw [tv6_e hr2.2.1 hr2.2.2.1 hr2.2.2.2.2.1 hr2.2.2.2.2.2.1]
        have hwb := winW_b hr2.2.2.2.2.2.1.2.2
        have hr3 := (hr2.put (k := 12) (v := 6) (by omega)).put (k := 14) (v := nI (winT s.2.2.2)) (by omega)
        obtain ⟨A, E⟩ := tv_ok (w := winW s.2.2.2) (t := (winT s.2.2.2 : Nat)) hr3 (by omega) (by omega) (by omega) (by rw [gI_sI_s, iZ_nat])
        refine ⟨fun z => ?_, fun z => ?_⟩
        · obtain ⟨A1, A2⟩ := A z
          refine ⟨_, A1, A2, ?_, ?_, ?_⟩
          · refine kpR.trans ?_ tvM_kp
            refine kpR.trans ?_ (kpR_sI (by omega))
            refine kpR.trans ?_ (kpR_sI (by omega))
            exact hk2.trans (kpR_sI (by omega))
          · rw [tvM11, ← k11]; simp [gI_sIa]
          · unfold tvR
            refine ⟨by simp [tvM, gI_sJ, gI_sIa]; rfl, ?_, ?_, fun z => by simp at z⟩
            · rw [show gJ (tvM _ r _ _) r 15 = _ from gJ_sJ_s, if_neg (by omega)]; rfl
            · rw [tvM, gI_sJ, gI_sI_s, if_neg (by omega), if_neg (by simp)]
        · obtain ⟨m2, g1, g2, g3⟩ := E z
          refine ⟨m2, g1, g2, ?_⟩
          refine kpR.trans ?_ g3
          refine kpR.trans ?_ (kpR_sI (by omega))
          exact hk2.trans (kpR_sI (by omega))
      · rw [if_neg (fun z => c3 ((lgN0 (by omega)).mp z))]
        obtain ⟨A, E⟩ := tv7_ok hr2 c0 c3
        refine ⟨fun z => ?_, fun z => ?_⟩
        · obtain ⟨m', a1, a2, a3, a4, a5⟩ := A z
          refine ⟨m', a1, a2, hk2.trans a3, ?_, a5⟩
          rw [a4, ← k11]; simp [gI_sIa]
        · obtain ⟨m', a1, a2, a3⟩ := E z
          exact ⟨m', a1, a2, hk2.trans a3⟩
    · have eR : rdV (fb by_ L) s.2.2.2 p = (6, lN (num (fb by_ L) (p + 2) (winW s.2.2.2) * 2 ^ winT s.2.2.2), 0, 0, p + 2 + winW s.2.2.2) := by unfold rdV; rw [if_neg c0, if_pos (fb_out (by omega))]
      rw [eR]
      dsimp only
      refine ⟨fun z => by omega, fun _ => ?_⟩
      obtain ⟨e2, he⟩ := re_end hr1 (w := 1) (by omega) (by omega)
      rw [e2, bind_e]
      dsimp only
      rw [if_pos ((lg0 0).mpr rfl)]
      obtain ⟨hp, h1, h2, ⟨s', h3, h4⟩, h5⟩ := he
      rw [tv6_e h1 h2 h3 h4]
      have he : enR K (sI (sI m0 r 8 (nI (112 + (p + 1)))) r 10 1) r β by_ (112 + L) := ⟨hp, h1, h2, ⟨s', h3, h4⟩, h5⟩
      obtain ⟨m2, g1, g2, g3⟩ := tv_ends (w := winW s'.2.2.2) ((he.put (k := 12) (v := 6) (by omega)).put (k := 14) (v := nI (winT s'.2.2.2)) (by omega)) (winW_b h4.2.2).1
      refine ⟨m2, g1, g2, ?_⟩
      refine kpR.trans ?_ g3
      refine kpR.trans ?_ (kpR_sI (by omega))
      refine kpR.trans ?_ (kpR_sI (by omega))
      exact hk1.trans (kpR_sI (by omega))
  · refine ⟨fun z => by omega, fun _ => ?_⟩
    obtain ⟨e1, he⟩ := re_end hr (w := 1) (by omega) (by omega)
    rw [e1, bind_e]
    dsimp only
    rw [if_pos ((lg0 0).mpr rfl)]
    obtain ⟨m2, g1, g2, g3⟩ := tv_ends (w := 0) (he.put (k := 12) (v := 5) (by omega)) (by omega)
    refine ⟨m2, g1, g2, ?_⟩
    refine kpR.trans ?_ g3
    exact (hk0.trans (kpR_sI (by omega))).trans (kpR_sI (by omega))
theorem en_value {K : Kn} {m : Mem} {r β : Nat} {by_ : Nat → Nat} {lim : Nat} (h : enR K m r β by_ lim) : ∃ m', F_X6_takeValue K m r = some m' ∧ enR K m' r β by_ lim ∧ kpR r m m' := by
  rw [takeValue_u]
  have he := (h.put (k := 13) (v := 0) (by omega)).put (k := 14) (v := 0) (by omega)
  have hk0 : kpR r m (sI (sI m r 13 0) r 14 0) := (kpR_sI (by omega)).trans (kpR_sI (by omega))
  obtain ⟨v, m1, e1, b1, he1, k1, -⟩ := en_tk he (w := 1) (by omega)
  rw [show (1 : Int32) = nI 1 from rfl, e1, bind_e]
  dsimp only
  split
  · obtain ⟨m2, g1, g2, g3⟩ := tv_ends (w := 0) (he1.put (k := 12) (v := 5) (by omega)) (by omega)
    exact ⟨m2, g1, g2, ((hk0.trans k1).trans (kpR_sI (by omega))).trans g3⟩
  obtain ⟨v2, m2, e2, b2, he2, k2, -⟩ := en_tk he1 (w := 1) (by omega)
  rw [e2, bind_e]
  dsimp only
  split
  · obtain ⟨hp, h1, h2, ⟨s', h3, h4⟩, h5⟩ := he2
    rw [tv6_e h1 h2 h3 h4]
    have he : enR K m2 r β by_ lim := ⟨hp, h1, h2, ⟨s', h3, h4⟩, h5⟩
    obtain ⟨m3, g1, g2, g3⟩ := tv_ends (w := winW s'.2.2.2) ((he.put (k := 12) (v := 6) (by omega)).put (k := 14) (v := nI (winT s'.2.2.2)) (by omega)) (winW_b h4.2.2).1
    exact ⟨m3, g1, g2, ((((hk0.trans k1).trans k2).trans (kpR_sI (by omega))).trans (kpR_sI (by omega))).trans g3⟩
  · unfold tv7
    simp only [bd_e]
    obtain ⟨v3, m3, e3, b3, he3, k3, -⟩ := en_tk (he2.put (k := 12) (v := 7) (by omega)) (w := 5) (by omega)
    rw [show (5 : Int32) = nI 5 from rfl, e3, bind_e]
    dsimp only
    obtain ⟨m4, g1, g2, g3⟩ := tv7_en (he3.put (k := 13) (v := (lN v3).toInt32) (by omega))
    exact ⟨m4, g1, g2, (((((hk0.trans k1).trans k2).trans (kpR_sI (by omega))).trans k3).trans (kpR_sI (by omega))).trans g3⟩
