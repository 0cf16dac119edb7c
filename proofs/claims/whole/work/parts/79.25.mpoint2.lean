/-! ===== the reference reads a point: its end ===== -/
def WR (A r : Nat) : Nat → Nat → Prop := fun a k => (a = A ∧ 14 ≤ k ∧ k ≤ 20) ∨ (a = A + 17 ∧ k = r) ∨ (a = A + 18 ∧ k = r)
theorem ro_326 {K : Kn} {m M : Mem} {A q k way r t : Nat} {x : Int64} {c : Cs} {w : Win} (h : MS K m A) (hM : fr (WC A) m M) (h26 : gI m A 26 = nI r) (hr : r < 800) (h14 : gJ M A 14 = lN c.1) (h16 : gJ M A 16 = c.2.2.1) (hc : c.1 ≤ t) (hw : match w with
  | none => gI M A 19 = 0
  | some w => gI M A 19 = 1 ∧ gI M A 17 = nI w.1 ∧ gI M A 18 = nI w.2) :
    ∃ m', f_X9_readsOne_326 K A (nI q) M (nI k) x (nI way) (lN t) = some ((0 : Int32), m') ∧ fr (WR A r) m m' ∧ csM m' A (t, t - c.1, c.2.2.1 ^^^ x, w) ∧ gI m' A 20 = gI M A 20 ∧ gI m' (A + 17) r = nI k ∧ gI m' (A + 18) r = nI way := by
  have hMS := h.on hM
  unfold f_X9_readsOne_326
  simp only [bd_e]
  have e26 : gI M A 26 = nI r := (hM.I (fun z => by have := z.2.2; omega)).trans h26
  rw [h14]
  have e15 : lN t - lN c.1 = lN (t - c.1) := by
    rw [← lZ_nat, ← lZ_nat, lZ_sub, ← lZ_nat]
    congr 1; omega
  rw [e15]
  have e16 : gJ (sJ (sJ M A 15 (lN (t - c.1))) A 14 (lN t)) A 16 = c.2.2.1 := by
    rw [gJ_sJ_n (Or.inr (by decide)), gJ_sJ_n (Or.inr (by decide)), h16]
  rw [e16]
  generalize hM3 : sJ (sJ (sJ M A 15 (lN (t - c.1))) A 14 (lN t)) A 16 (c.2.2.1 ^^^ x) = M3
  have f3 : fr (WC A) M M3 := by
    rw [← hM3]
    exact ((fr_sJ ⟨rfl, by omega, by omega⟩).trans (fr_sJ ⟨rfl, by omega, by omega⟩)).trans (fr_sJ ⟨rfl, by omega, by omega⟩)
  have hS3 := hMS.on f3
  have i3 : ∀ a j, gI M3 a j = gI M a j := fun a j => by rw [← hM3]; rfl
  rw [hS3.d24, bind_e, i3, e26, hS3.s24 hr, bind_e]
  have hS4 : MS K (sI M3 (A + 17) r (nI k)) A := hS3.on (fr_sI (W := fun _ _ => True) trivial)
  rw [hS4.d25, bind_e, gI_sI_n (Or.inl (by omega)), i3, e26, hS4.s25 hr, bind_e]
  refine ⟨_, rfl, ?_, ⟨?_, ?_, ?_, ?_⟩, ?_, ?_, gI_sI_s⟩
  · exact ((hM.trans f3).mono (fun a j z => Or.inl z)).trans ((fr_sI (Or.inr (Or.inl ⟨rfl, rfl⟩))).trans (fr_sI (Or.inr (Or.inr ⟨rfl, rfl⟩))))
  · rw [gJ_sI, gJ_sI, ← hM3, gJ_sJ_n (Or.inr (by decide)), gJ_sJ_s]
  · rw [gJ_sI, gJ_sI, ← hM3, gJ_sJ_n (Or.inr (by decide)), gJ_sJ_n (Or.inr (by decide)), gJ_sJ_s]
  · rw [gJ_sI, gJ_sI, ← hM3, gJ_sJ_s]
  · have g : ∀ j, gI (sI (sI M3 (A + 17) r (nI k)) (A + 18) r (nI way)) A j = gI M A j := fun j => by
      rw [gI_sI_n (Or.inl (by omega)), gI_sI_n (Or.inl (by omega)), i3]
    dsimp only
    cases w with
    | none => dsimp only at hw ⊢; rw [g]; exact hw
    | some w => dsimp only at hw ⊢; rw [g, g, g]; exact hw
  · rw [gI_sI_n (Or.inl (by omega)), gI_sI_n (Or.inl (by omega)), i3]
  · rw [gI_sI_n (Or.inl (by omega)), gI_sI_s]
/-- what is known when a point was read, or was not -/
def roP (K : Kn) (m : Mem) (A r : Nat) (P : Nat × Nat × Cs × Nat × Nat) (F : Option (Int32 × Mem)) : Prop := ∃ m', F = some (nI P.1, m') ∧ fr (WR A r) m m' ∧ (P.1 = 0 → csM m' A P.2.2.1 ∧ gI m' A 20 = nI P.2.1 ∧ gI m' (A + 17) r = nI P.2.2.2.1 ∧ gI m' (A + 18) r = nI P.2.2.2.2)
theorem ro_248 {K : Kn} {m : Mem} {A q n L e k way a z r : Nat} {by_ : Nat → Nat} {c : Cs} {s : Int} {ok : Bool} {x : Int64} {x9 x10 : Int32} {P : Nat × Nat × Cs × Nat × Nat} (h : rM K m A q n by_ L c) (hs : -2147483648 ≤ s ∧ s < 2147483648) (he : e < 100000) (hway : way ≤ 7) (h9 : way = 7 → ok = true → x9 = nI a ∧ x10 = nI z) (h26 : gI m A 26 = nI r) (hr : r < 800)
    (hP : P = if L < e then (2, e, c, k, way) else if (c.2.1 : Int) + s < 1 ∨ 2000000000 < (c.1 : Int) + c.2.1 + s then (3, e, c, k, way) else if ok = false then (4, e, c, k, way) else (0, e, (((c.1 : Int) + c.2.1 + s).toNat, ((c.2.1 : Int) + s).toNat, c.2.2.1 ^^^ x, if way = 7 then some (a, z) else c.2.2.2), k, way)) :
    roP K m A r P (f_X9_readsOne_248 K A (nI q) (sI m A 20 (nI e)) (nI k) (lZ s) (if ok = true then 1 else 0) x (nI way) x9 x10) := by
  obtain ⟨h1, h2, h3, h4, h5, h6, h7, h8⟩ := h
  obtain ⟨b1, b2, b3⟩ := h8
  obtain ⟨c1, c2, c3, c4⟩ := h7
  have f0 : fr (WC A) m (sI m A 20 (nI e)) := fr_sI ⟨rfl, by omega, by omega⟩
  have f0' : fr (WR A r) m (sI m A 20 (nI e)) := f0.mono (fun _ _ z => Or.inl z)
  unfold f_X9_readsOne_248
  rw [gI_sI_s, gI_sI_n (Or.inr (by decide)), h6]
  by_cases d1 : L < e
  · rw [if_pos d1] at hP
    rw [if_neg (fun z => by have := (nI_leI (by omega) (by omega)).mp z; omega), hP]
    exact ⟨_, rfl, f0', fun z => by simp at z⟩
  rw [if_neg d1] at hP
  rw [if_pos ((nI_leI (by omega) (by omega)).mpr (by omega)), bd_e, gJ_sI, gJ_sI, c1, c2]
  have et : lN c.1 + lN c.2.1 + lZ s = lZ ((c.1 : Int) + c.2.1 + s) := by rw [← lZ_nat, ← lZ_nat, lZ_add, lZ_add]
  rw [et]
  have i1 : lg_cmp (lZ ((c.1 : Int) + c.2.1 + s)) (lN c.1) ≤ 0 ↔ (c.2.1 : Int) + s < 1 := by
    rw [← lZ_nat, lgZ_le (by omega) (by omega) (by omega) (by omega)]; omega
  have i2 : lg_cmp (lZ ((c.1 : Int) + c.2.1 + s)) (2000000000 : Int64) ≤ 0 ↔ (c.1 : Int) + c.2.1 + s ≤ 2000000000 := by
    rw [show (2000000000 : Int64) = lZ ((2000000000 : Nat) : Int) from rfl, lgZ_le (by omega) (by omega) (by omega) (by omega)]; omega
  by_cases d2 : (c.2.1 : Int) + s < 1
  · rw [if_pos (Or.inl d2)] at hP
    rw [if_pos (i1.mpr d2), hP]
    exact ⟨_, rfl, f0', fun z => by simp at z⟩
  rw [if_neg (fun z => d2 (i1.mp z))]
  by_cases d3 : 2000000000 < (c.1 : Int) + c.2.1 + s
  · rw [if_pos (Or.inr d3)] at hP
    rw [if_neg (fun z => by have := i2.mp z; omega), hP]
    exact ⟨_, rfl, f0', fun z => by simp at z⟩
  rw [if_neg (by omega)] at hP
  rw [if_pos (i2.mpr (by omega))]
  cases ok with
  | false =>
    rw [if_pos rfl] at hP
    rw [if_pos (show (if false = true then (1 : Int32) else 0) = 0 from rfl), hP]
    exact ⟨_, rfl, f0', fun z => by simp at z⟩
  | true =>
    rw [if_neg (by decide)] at hP
    rw [if_neg (by decide)]
    obtain ⟨T, hT⟩ : ∃ T : Nat, (c.1 : Int) + c.2.1 + s = T := ⟨((c.1 : Int) + c.2.1 + s).toNat, by omega⟩
    have hD : ((c.2.1 : Int) + s).toNat = T - c.1 := by omega
    rw [hT, hD, Int.toNat_natCast] at hP
    rw [hT, lZ_nat]
    have i7 : nI way = (7 : Int32) ↔ way = 7 := nI_eq (b := 7) (by omega) (by omega)
    by_cases d7 : way = 7
    · obtain ⟨g9, g10⟩ := h9 d7 rfl
      rw [if_pos d7] at hP
      rw [if_pos (i7.mpr d7), bd_e, bd_e, bd_e, g9, g10]
      have fM : fr (WC A) m (sI (sI (sI (sI m A 20 (nI e)) A 19 1) A 17 (nI a)) A 18 (nI z)) := ((f0.trans (fr_sI ⟨rfl, by omega, by omega⟩)).trans (fr_sI ⟨rfl, by omega, by omega⟩)).trans (fr_sI ⟨rfl, by omega, by omega⟩)
      obtain ⟨m', e1, e2, e3, e4, e5, e6⟩ := ro_326 (q := q) (k := k) (way := way) (t := T) (x := x) (c := c) (w := some (a, z)) h1 fM h26 hr c1 c3 (by omega) (by
        dsimp only
        exact ⟨by rw [gI_sI_n (Or.inr (by decide)), gI_sI_n (Or.inr (by decide)), gI_sI_s], by rw [gI_sI_n (Or.inr (by decide)), gI_sI_s], gI_sI_s⟩)
      rw [hP]
      refine ⟨m', e1, e2, fun _ => ⟨e3, ?_, e5, e6⟩⟩
      rw [e4, gI_sI_n (Or.inr (by decide)), gI_sI_n (Or.inr (by decide)), gI_sI_n (Or.inr (by decide)), gI_sI_s]
    · rw [if_neg d7] at hP
      rw [if_neg (fun z => d7 (i7.mp z))]
      obtain ⟨m', e1, e2, e3, e4, e5, e6⟩ := ro_326 (K := K) (q := q) (k := k) (way := way) (t := T) (x := x) (c := c) (w := c.2.2.2) h1 f0 h26 hr c1 c3 (by omega) (by
        have g : ∀ j, j ≠ 20 → gI (sI m A 20 (nI e)) A j = gI m A j := fun j hj => gI_sI_n (Or.inr hj)
        cases hw : c.2.2.2 with
        | none => rw [hw] at c4; dsimp only at c4 ⊢; rw [g _ (by decide)]; exact c4
        | some w => rw [hw] at c4; dsimp only at c4 ⊢; rw [g _ (by decide), g _ (by decide), g _ (by decide)]; exact c4)
      rw [hP]
      refine ⟨m', e1, e2, fun _ => ⟨e3, ?_, e5, e6⟩⟩
      rw [e4, gI_sI_s]
theorem ro_196 {K : Kn} {M : Mem} {A way : Nat} {q : Int32} {k : Int32} {s : Int64} {x : Int64} {c : Cs} {kok : Bool} {x9 x10 : Int32} {a w : Nat} (hM : csM M A c) (hc : winOk c.2.2.2) (hway : way = 6 ∨ way = 7) (h7 : way = 7 → a ≤ 31 ∧ w ≤ 64 ∧ x9 = nI a ∧ (x = 0 ∨ a + w ≤ 64 ∧ x10 = nI (64 - a - w))) {R : Nat × Int64 × Nat × Nat × Nat} (hR1 : R.1 = way) (hR2 : R.2.1 = x) (hR3 : way = 7 → R.2.2.1 = a ∧ R.2.2.2.1 = w) :
    f_X9_readsOne_196 K A q M k s (if kok = true then 1 else 0) (nI way) x9 x10 x = f_X9_readsOne_248 K A q M k s (if (kok && okB c.2.2.2 R) = true then 1 else 0) x (nI way) x9 x10 := by
  unfold f_X9_readsOne_196 f_X9_readsOne_245 f_X9_readsOne_241 f_X9_readsOne_246
  cases kok with
  | false => rfl
  | true =>
    rw [if_pos rfl, if_neg (by decide), wayOf_ok hM hc, bind_e, Bool.true_and]
    have hwa : wayA c.2.2.2 x < 8 := by rcases wayA_cases c.2.2.2 x with h | h | h <;> omega
    have i1 : nI (wayA c.2.2.2 x) = nI way ↔ wayA c.2.2.2 x = way := nI_eq (by omega) (by omega)
    unfold okB
    rw [hR1, hR2]
    have n5 : (way == 5) = false := by rcases hway with h | h <;> rw [h] <;> rfl
    rw [n5, Bool.false_or]
    by_cases d1 : wayA c.2.2.2 x = way
    · rw [if_pos (i1.mpr d1), d1]
      rcases hway with h6 | h6
      · rw [h6]; rfl
      · subst h6
        obtain ⟨g1, g2, g3, g4⟩ := h7 rfl
        obtain ⟨g5, g6⟩ := hR3 rfl
        have x0 : x ≠ 0 := fun z => by rw [z, wayA_0] at d1; omega
        rcases g4 with g4 | ⟨g4, g7⟩
        · exact absurd g4 x0
        have hl := leadA_le x
        have hwd := widA_e x0
        rw [if_neg (by decide), aheadOf_ok, bind_e, g3, g5, g6]
        have i2 : nI a = nI (leadA x) ↔ a = leadA x := nI_eq (by omega) (by omega)
        by_cases d2 : a = leadA x
        · rw [if_pos (i2.mpr d2), (tz_x x).1, bind_e, g7]
          have i3 : nI (64 - a - w) = nI (tz x) ↔ 64 - a - w = tz x := nI_eq (by omega) (by omega)
          by_cases d3 : 64 - a - w = tz x
          · rw [if_pos (i3.mpr d3)]
            have : a + w + tz x = 64 := by omega
            rw [this, d2]; simp
          · rw [if_neg (fun z => d3 (i3.mp z))]
            have : ¬ a + w + tz x = 64 := by omega
            simp [this]
        · rw [if_neg (fun z => d2 (i2.mp z))]
          simp [d2]
    · rw [if_neg (fun z => d1 (i1.mp z))]
      simp [d1]
