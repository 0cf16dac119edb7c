/-! ===== calls of the reference: area, least ===== -/
theorem area_loop {K : Kn} {m : Mem} {A a : Nat} {x1 x2 x3 : Int32} {sp : List Pt} (h : spM K m A a sp) (hs : srt sp) (h2 : ∀ q ∈ sp, q.1 ≤ 2000000000) : ∀ (f i : Nat) (y : Int64), i ≤ sp.length → sp.length - i < f → isN y = true ∨ y = nanW → f_X9_area_30 K A x1 x2 x3 f m y.toUInt64 (nI (a + i)) = some (areA (sp.drop i) y, m)
  | 0, _, _, _, h, _ => absurd h (Nat.not_lt_zero _)
  | f + 1, i, y, hi, hf, hy => by
    have hb := h.2.2.2.1
    have unf : f_X9_area_30 K A x1 x2 x3 (f + 1) m y.toUInt64 (nI (a + i)) = f_X9_area_30B K A x1 x2 x3 (f_X9_area_30 K A x1 x2 x3 f) m y.toUInt64 (nI (a + i)) := rfl
    rw [unf]
    unfold f_X9_area_30B f_X9_area_88
    rw [h.2.2.1, nI_1]
    by_cases c : sp.length ≤ i + 1
    · rw [if_pos ((nI_leI (by omega) (by omega)).mpr (by omega)), told_ok' hy, bind_e]
      have : areA (sp.drop i) y = y := by
        by_cases c2 : sp.length ≤ i
        · rw [List.drop_eq_nil_of_le c2]; rfl
        · obtain ⟨p, hp⟩ := get_some (l := sp) (i := i) (by omega)
          rw [drop_get hp, List.drop_eq_nil_of_le c]; rfl
      rw [this]
    · rw [if_neg (fun z => by have := (nI_leI (by omega) (by omega)).mp z; omega)]
      obtain ⟨p, hp⟩ := get_some (l := sp) (i := i) (by omega)
      obtain ⟨q, hq⟩ := get_some (l := sp) (i := i + 1) (by omega)
      obtain ⟨-, a2, a3, a4, a5⟩ := sp_at h hp
      obtain ⟨-, -, -, b4, -⟩ := sp_at h hq
      have hlt := srt_lt hs hp hq (by omega)
      rw [← Nat.add_assoc] at b4
      simp only [a2, a3, a4, a5, b4, bind_e, bd_e, isNumM]
      have ed : lN q.1 - lN p.1 = lN (q.1 - p.1) := by
        rw [← lZ_nat, ← lZ_nat, lZ_sub, ← lZ_nat]; congr 1; omega
      have eA : ∀ z, areA (sp.drop i) z = areA (sp.drop (i + 1)) (if isN p.2 = true then addA z (mulA p.2 (lN (q.1 - p.1))) else z) := fun z => by
        rw [drop_get hp, drop_get hq]; rfl
      rw [eA, ed]
      by_cases d : isN p.2 = true
      · rw [if_pos d, if_neg (by decide), gd_t (snl_ok d), if_pos d]
        exact area_loop h hs h2 f (i + 1) (addA y (mulA p.2 (lN (q.1 - p.1)))) (by omega) (by omega) addA_num
      · rw [if_neg d, if_pos rfl, if_neg d]
        exact area_loop h hs h2 f (i + 1) y (by omega) (by omega) hy
theorem marea_ok {K : Kn} {m : Mem} {A : Nat} {s : St} (hok : stOk s) (h : RM K m A s) (x f t : Int32) : okM K m A (F_X9_area K m A x f t) (aArea s x f t) s := by
  unfold F_X9_area f_X9_area aArea
  rw [show (9221120237041090560 : Int64) = nanW from rfl]
  rcases isSpan_ok hok h x f t with ⟨hs, hn⟩ | ⟨S, hs, hn⟩
  · rw [hn, hs, bind_e, if_pos rfl]; exact okM.same h
  · rw [hn, hs, bind_e]
    dsimp only
    by_cases c0 : t < f
    · rw [if_pos c0, if_pos rfl, if_neg (fun z => (nlt32.mpr z) c0)]; exact okM.same h
    rw [if_neg c0, if_neg (by decide), if_pos (nlt32.mp c0)]
    obtain ⟨j, hj, rfl, hsj, hS, hm⟩ := h.at hok hs
    obtain ⟨m1, a, r1, r2, r3, -⟩ := laysM h.1 hj hS hm c0
    rw [r1, bind_e, bd_e, r3.2.1]
    have hb := r3.2.2.2.1
    have := area_loop (x1 := nI j) (x2 := f) (x3 := t) r3 (span_srt hS f.toInt t.toInt) (span_le hS f.toInt t.toInt) FU 0 0 (Nat.zero_le _) (by rw [FU_e]; omega) (Or.inl (by decide))
    rw [List.drop_zero] at this
    rw [show FP.dconst0 = (0 : Int64).toUInt64 from by decide]
    have e : f_X9_area_30 K A (nI j) f t FU m1 ((0 : Int64).toUInt64) (nI a) = _ := this
    rw [e]
    exact okM.kp hok h r2
def lsF (x : Pt) (i : Nat) (y : Nat) (j : Nat) (q : Pt) : Nat := if isN q.2 = true ∧ (ordA q.2 < ordA x.2 ∨ (j < i ∧ ¬ ordA x.2 < ordA q.2)) then y + 1 else y
theorem lsF_le (x : Pt) (i : Nat) : ∀ (l : List Pt) (j y : Nat), foldI (lsF x i) y j l ≤ y + l.length
  | [], _, _ => Nat.le_refl _
  | q :: l, j, y => by
    show foldI (lsF x i) (lsF x i y j q) (j + 1) l ≤ _
    have := lsF_le x i l (j + 1) (lsF x i y j q)
    have h2 : lsF x i y j q ≤ y + 1 := by unfold lsF; split <;> omega
    rw [List.length_cons]; omega
theorem lsF_hi (x : Pt) (i : Nat) : ∀ (l : List Pt) (j y : Nat), i ≤ j → foldI (lsF x i) y j l = y + (l.filter (fun q => isN q.2)).countP (fun q => decide (ordA q.2 < ordA x.2))
  | [], _, _, _ => rfl
  | q :: l, j, y, h => by
    show foldI (lsF x i) (lsF x i y j q) (j + 1) l = _
    rw [lsF_hi x i l (j + 1) _ (by omega)]
    unfold lsF
    by_cases c1 : isN q.2 = true
    · rw [List.filter_cons_of_pos (p := fun q : Pt => isN q.2) c1, List.countP_cons]
      by_cases c2 : ordA q.2 < ordA x.2
      · rw [if_pos ⟨c1, Or.inl c2⟩, if_pos (decide_eq_true c2)]; omega
      · rw [if_neg (fun z => z.2.elim c2 (fun z => by omega)), if_neg (by rw [decide_eq_false c2]; decide)]; rfl
    · rw [if_neg (fun z => c1 z.1), List.filter_cons_of_neg (p := fun q : Pt => isN q.2) c1]
theorem lsF_lo (x : Pt) (i : Nat) : ∀ (l : List Pt) (j y : Nat), j + l.length ≤ i → foldI (lsF x i) y j l = y + (l.filter (fun q => isN q.2)).countP (fun q => decide (ordA q.2 ≤ ordA x.2))
  | [], _, _, _ => rfl
  | q :: l, j, y, h => by
    rw [List.length_cons] at h
    show foldI (lsF x i) (lsF x i y j q) (j + 1) l = _
    rw [lsF_lo x i l (j + 1) _ (by omega)]
    unfold lsF
    have hd : ordA q.2 ≤ ordA x.2 ↔ ¬ ordA x.2 < ordA q.2 := by rw [fa_le64, fa_lt64]; omega
    have hd2 : ordA q.2 < ordA x.2 → ordA q.2 ≤ ordA x.2 := by rw [fa_le64, fa_lt64]; omega
    by_cases c1 : isN q.2 = true
    · rw [List.filter_cons_of_pos (p := fun q : Pt => isN q.2) c1, List.countP_cons]
      by_cases c2 : ordA q.2 ≤ ordA x.2
      · rw [if_pos ⟨c1, Or.inr ⟨by omega, hd.mp c2⟩⟩, if_pos (decide_eq_true c2)]; omega
      · rw [if_neg (fun z => z.2.elim (fun z => c2 (hd2 z)) (fun z => c2 (hd.mpr z.2))), if_neg (by rw [decide_eq_false c2]; decide)]; rfl
    · rw [if_neg (fun z => c1 z.1), List.filter_cons_of_neg (p := fun q : Pt => isN q.2) c1]
theorem foldI_app {α β : Type} (st : β → Nat → α → β) : ∀ (l l' : List α) (x : β) (i : Nat), foldI st x i (l ++ l') = foldI st (foldI st x i l) (i + l.length) l'
  | [], _, _, _ => rfl
  | a :: l, l', x, i => by
    show foldI st (st x i a) (i + 1) (l ++ l') = foldI st (foldI st (st x i a) (i + 1) l) (i + (l.length + 1)) l'
    rw [foldI_app st l l' _ (i + 1), show i + 1 + l.length = i + (l.length + 1) by omega]
theorem lsF_rkd {sp : List Pt} {i : Nat} {x : Pt} (hx : sp[i]? = some x) (hN : isN x.2 = true) : foldI (lsF x i) 0 0 sp = rkd ((sp.take i).filter (fun q => isN q.2)) x ((sp.drop (i + 1)).filter (fun q => isN q.2)) := by
  have hil := (List.getElem?_eq_some_iff.mp hx).1
  have e : sp = sp.take i ++ (x :: sp.drop (i + 1)) := by rw [← drop_get hx, List.take_append_drop]
  have hl : (sp.take i).length = i := by rw [List.length_take]; omega
  conv => lhs; rw [e]
  rw [foldI_app, lsF_lo x i (sp.take i) 0 0 (by omega), hl, Nat.zero_add, Nat.zero_add]
  show foldI (lsF x i) (lsF x i _ i x) (i + 1) (sp.drop (i + 1)) = _
  have e2 : ∀ y, lsF x i y i x = y := fun y => by
    unfold lsF
    rw [if_neg (fun z => z.2.elim (fun z => by rw [fa_lt64] at z; omega) (fun z => by omega))]
  rw [e2, lsF_hi x i _ (i + 1) _ (by omega)]
  rfl
theorem least_50 {K : Kn} {m : Mem} {A a i : Nat} {x1 x2 x3 x4 : Int32} {k32 : Mem → Int32 → Option (Int64 × Mem)} {sp : List Pt} {x : Pt} (h : spM K m A a sp) (hx : sp[i]? = some x) (hN : isN x.2 = true) : f_X9_least_50 K A x1 x2 x3 x4 k32 FU m (nI (a + i)) (0 : Int32) (nI a) = f_X9_least_160 K A x1 x2 x3 x4 k32 m (nI (a + i)) (nI (foldI (lsF x i) 0 0 sp)) := by
  have hb := h.2.2.2.1
  have hil := (List.getElem?_eq_some_iff.mp hx).1
  obtain ⟨-, a2, a3, a4, a5⟩ := sp_at h hx
  have := scanT 0 sp (fun n (y : Nat) j => f_X9_least_50 K A x1 x2 x3 x4 k32 n m (nI (a + i)) (nI y) (nI (a + j))) (lsF x i) (fun _ => True) (fun y => f_X9_least_160 K A x1 x2 x3 x4 k32 m (nI (a + i)) (nI y)) (fun _ _ _ _ _ _ => trivial) (fun n y j q h1 hq _ => ?_) (fun n y j hi hi2 _ => ?_) FU 0 0 (Nat.le_refl _) (by omega) (by rw [FU_e]; omega) trivial
  · rw [List.drop_zero] at this
    exact this
  · obtain ⟨b1, b2, b3, b4, b5⟩ := sp_at h hq
    have hjl := (List.getElem?_eq_some_iff.mp hq).1
    show f_X9_least_50B K A x1 x2 x3 x4 k32 (f_X9_least_50 K A x1 x2 x3 x4 k32 n) m (nI (a + i)) (nI y) (nI (a + j)) = _
    unfold f_X9_least_50B f_X9_least_132 f_X9_least_136 f_X9_least_137 f_X9_least_151 lsF
    rw [if_neg b1]
    simp only [a3, a5, b5, bind_e, bd_e, nI_1, isNumM, add_0, if_true, if_neg (show ¬ ((1 : Int32) = 0) by decide)]
    rw [if_pos hN, if_neg (by decide)]
    cases c1 : isN q.2 with
    | false => rw [if_neg (by decide : ¬ (false = true)), if_pos rfl, if_neg (fun z => by simp at z)]; rfl
    | true =>
      rw [if_pos rfl, if_neg (by decide), isLess_ok c1 hN, isLess_ok hN c1]
      simp only [bind_e]
      by_cases d1 : ordA q.2 < ordA x.2
      · rw [if_pos d1, if_neg (by decide), if_pos ⟨trivial, Or.inl d1⟩]; rfl
      · rw [if_neg d1, if_pos rfl]
        by_cases d2 : i ≤ j
        · rw [if_pos ((nI_leI (by omega) (by omega)).mpr (by omega)), if_neg (fun z => z.2.elim d1 (fun z => by omega))]; rfl
        · rw [if_neg (fun z => by have := (nI_leI (by omega) (by omega)).mp z; omega)]
          by_cases d3 : ordA x.2 < ordA q.2
          · rw [if_pos d3, if_neg (by decide), if_neg (fun z => z.2.elim d1 (fun z => z.2 d3))]; rfl
          · rw [if_neg d3, if_pos rfl, if_pos ⟨trivial, Or.inr ⟨by omega, d3⟩⟩]; rfl
  · show f_X9_least_50B K A x1 x2 x3 x4 k32 (f_X9_least_50 K A x1 x2 x3 x4 k32 n) m (nI (a + i)) (nI y) (nI (a + j)) = _
    unfold f_X9_least_50B
    rw [if_pos (sp_end h hi hi2)]
theorem least_32 {K : Kn} {m : Mem} {A a k : Nat} {x1 x2 x3 : Int32} {sp : List Pt} (h : spM K m A a sp) (hk : k < 2147483648) : ∀ (f i : Nat), i ≤ sp.length → sp.length - i < f → f_X9_least_32 K A x1 x2 x3 (nI k) f m (nI (a + i)) = some ((match rkF ((sp.take i).filter (fun q => isN q.2)) ((sp.drop i).filter (fun q => isN q.2)) k with
    | none => nanW
    | some v => v.2), m)
  | 0, _, _, h => absurd h (Nat.not_lt_zero _)
  | f + 1, i, hi, hf => by
    have hb := h.2.2.2.1
    have unf : f_X9_least_32 K A x1 x2 x3 (nI k) (f + 1) m (nI (a + i)) = f_X9_least_32B K A x1 x2 x3 (nI k) (f_X9_least_32 K A x1 x2 x3 (nI k) f) m (nI (a + i)) := rfl
    rw [unf]
    unfold f_X9_least_32B
    by_cases c : sp.length ≤ i
    · rw [if_pos (sp_end h c (by omega)), List.drop_eq_nil_of_le c]; rfl
    · obtain ⟨x, hx⟩ := get_some (l := sp) (i := i) (by omega)
      obtain ⟨a1, a2, a3, a4, a5⟩ := sp_at h hx
      rw [if_neg a1, bd_e, h.2.1]
      have ih := least_32 (x1 := x1) (x2 := x2) (x3 := x3) h hk f (i + 1) (by omega) (by omega)
      have et : (sp.take (i + 1)) = sp.take i ++ [x] := by rw [List.take_add_one, hx]; rfl
      rw [et, List.filter_append] at ih
      rw [drop_get hx]
      by_cases d : isN x.2 = true
      · rw [least_50 h hx d, lsF_rkd hx d]
        unfold f_X9_least_160 f_X9_least_188
        simp only [a3, a5, bind_e, bd_e, nI_1, isNumM]
        have hr : rkd ((sp.take i).filter (fun q => isN q.2)) x ((sp.drop (i + 1)).filter (fun q => isN q.2)) < 2147483648 := by
          rw [← lsF_rkd hx d]
          have := lsF_le x i sp 0 0
          omega
        rw [if_pos d, if_neg (by decide), List.filter_cons_of_pos (p := fun q : Pt => isN q.2) d, rkF]
        rw [List.filter_cons_of_pos (p := fun q : Pt => isN q.2) d, List.filter_nil] at ih
        by_cases e : rkd ((sp.take i).filter (fun q => isN q.2)) x ((sp.drop (i + 1)).filter (fun q => isN q.2)) = k
        · rw [if_pos (by rw [e]), if_pos e]
        · rw [if_neg (fun z => e ((nI_eq hr hk).mp z)), if_neg e]
          exact ih
      · have e0 : f_X9_least_50 K A x1 x2 x3 (nI k) (f_X9_least_32 K A x1 x2 x3 (nI k) f) FU m (nI (a + i)) (0 : Int32) (nI a) = f_X9_least_160 K A x1 x2 x3 (nI k) (f_X9_least_32 K A x1 x2 x3 (nI k) f) m (nI (a + i)) (0 : Int32) := by
          rw [FU_e]
          have unf : f_X9_least_50 K A x1 x2 x3 (nI k) (f_X9_least_32 K A x1 x2 x3 (nI k) f) 1000000 m (nI (a + i)) (0 : Int32) (nI a) = f_X9_least_50B K A x1 x2 x3 (nI k) (f_X9_least_32 K A x1 x2 x3 (nI k) f) (f_X9_least_50 K A x1 x2 x3 (nI k) (f_X9_least_32 K A x1 x2 x3 (nI k) f) 999999) m (nI (a + i)) (0 : Int32) (nI a) := rfl
          rw [unf]
          unfold f_X9_least_50B
          simp only [a3, a5, bind_e, isNumM, if_neg d, if_true]
          split <;> rfl
        rw [e0]
        unfold f_X9_least_160 f_X9_least_188
        simp only [a3, a5, bind_e, bd_e, nI_1, isNumM]
        rw [if_neg d, if_pos rfl, List.filter_cons_of_neg (p := fun q : Pt => isN q.2) d]
        rw [List.filter_cons_of_neg (p := fun q : Pt => isN q.2) d, List.filter_nil, List.append_nil] at ih
        exact ih
theorem mleast_ok {K : Kn} {m : Mem} {A : Nat} {s : St} (hok : stOk s) (h : RM K m A s) (x f t k : Int32) : okM K m A (F_X9_least K m A x f t k) (aLeast s x f t k) s := by
  unfold F_X9_least f_X9_least aLeast
  rw [show (9221120237041090560 : Int64) = nanW from rfl]
  rcases isSpan_ok hok h x f t with ⟨hs, hn⟩ | ⟨S, hs, hn⟩
  · rw [hn, hs, bind_e, if_pos rfl]; exact okM.same h
  · rw [hn, hs, bind_e]
    dsimp only
    by_cases c0 : t < f
    · rw [if_pos c0, if_pos rfl, if_pos c0]; exact okM.same h
    rw [if_neg c0, if_neg (by decide), if_neg c0]
    by_cases c2 : (0 : Int32) ≤ k
    · rw [if_pos c2, if_pos c2]
      obtain ⟨kk, hkk, rfl, hkc⟩ := idx_nI (show ¬ k < 0 by rw [nlt32]; exact c2)
      obtain ⟨j, hj, rfl, hsj, hS, hm⟩ := h.at hok hs
      obtain ⟨m1, a, r1, r2, r3, -⟩ := laysM h.1 hj hS hm c0
      rw [r1, bind_e, bd_e, r3.2.1, hkc]
      have hb := r3.2.2.2.1
      have := least_32 (x1 := nI j) (x2 := f) (x3 := t) r3 hkk FU 0 (Nat.zero_le _) (by rw [FU_e]; omega)
      rw [List.drop_zero, List.take_zero, List.filter_nil, Nat.add_zero] at this
      rw [this]
      exact okM.kp hok h r2
    · rw [if_neg c2, if_neg c2]; exact okM.same h
