/-! ===== the coder: what is known behind a weighing, a step, a begin ===== -/
def offc (c : Nat) : Nat → Prop := fun a => a ≠ c
def weR (m : Mem) (c : Nat) (s : Cs) (t : Nat) (v : Int64) : Prop := gI m c 5 = nI t ∧ gJ m c 6 = v ∧ gI m c 7 = iZ (secA s t) ∧ gI m c 8 = nI (kindA (secA s t)) ∧ gI m c 9 = nI (wayA s.2.2.2 (v ^^^ s.2.2.1)) ∧ gI m c 10 = nI (costA s t v) ∧ gJ m c 11 = v ^^^ s.2.2.1 ∧ gI m c 12 = nI (leadA (v ^^^ s.2.2.1)) ∧ gI m c 13 = nI (tz (v ^^^ s.2.2.1))
theorem coR.congr {m m' : Mem} {c : Nat} {s : Cs} (h : coR m c s) (e0 : gI m' c 0 = gI m c 0) (e1 : gI m' c 1 = gI m c 1) (e2 : gJ m' c 2 = gJ m c 2) (e3 : gI m' c 3 = gI m c 3) (e4 : gI m' c 4 = gI m c 4) : coR m' c s := by
  obtain ⟨h0, h1, h2, h3⟩ := h
  refine ⟨e0.trans h0, e1.trans h1, e2.trans h2, ?_⟩
  rw [e3, e4]; exact h3
theorem coR.on {p : Nat → Prop} {m m' : Mem} {c : Nat} {s : Cs} (h : coR m c s) (e : eqOn p m m') (hp : p c) : coR m' c s := h.congr (e.I hp) (e.I hp) (e.J hp) (e.I hp) (e.I hp)
theorem weR.on {p : Nat → Prop} {m m' : Mem} {c : Nat} {s : Cs} {t : Nat} {v : Int64} (h : weR m c s t v) (e : eqOn p m m') (hp : p c) : weR m' c s t v := by
  obtain ⟨h1, h2, h3, h4, h5, h6, h7, h8, h9⟩ := h
  exact ⟨(e.I hp).trans h1, (e.J hp).trans h2, (e.I hp).trans h3, (e.I hp).trans h4, (e.I hp).trans h5, (e.I hp).trans h6, (e.J hp).trans h7, (e.I hp).trans h8, (e.I hp).trans h9⟩
theorem wg_sz (m : Mem) (c : Nat) (s : Cs) (t : Nat) (v : Int64) : szm (wgM m c s t v) = szm m := rfl
theorem wg_off (m : Mem) (c : Nat) (s : Cs) (t : Nat) (v : Int64) : eqOn (offc c) m (wgM m c s t v) := by
  intro a ha k
  have ha : a ≠ c := ha
  refine ⟨?_, ?_, rfl⟩
  · unfold wgM; simp [gI_sI_n, gI_sJ, ha]
  · unfold wgM; simp [gJ_sJ_n, gJ_sI, ha]
theorem wg_co {m : Mem} {c : Nat} {s : Cs} (h : coR m c s) (t : Nat) (v : Int64) : coR (wgM m c s t v) c s := by
  refine h.congr ?_ ?_ ?_ ?_ ?_ <;> unfold wgM <;> simp only [gI_sIa, gI_sJ, gJ_sI, gJ_sJa] <;> rfl
theorem wg_we (m : Mem) (c : Nat) (s : Cs) (t : Nat) (v : Int64) : weR (wgM m c s t v) c s t v := by
  refine ⟨?_, ?_, ?_, ?_, ?_, ?_, ?_, ?_, ?_⟩ <;> unfold wgM <;> simp only [gI_sIa, gI_sJ, gJ_sI, gJ_sJa] <;> rfl
theorem step_ok {K : Kn} {m : Mem} {c : Nat} {s : Cs} {t : Nat} {v : Int64} (hc : coR m c s) (hw : weR m c s t v) (hs : csOk s) (ht1 : s.1 ≤ t) (ht : t ≤ 2000000000) : ∃ m', F_X1_step K m c = some m' ∧ coR m' c (stepA s t v) ∧ eqOn (offc c) m m' ∧ szm m' = szm m ∧ (∀ k, 5 ≤ k → gI m' c k = gI m c k) ∧ (∀ k, 5 ≤ k → gJ m' c k = gJ m c k) := by
  obtain ⟨h0, h1, h2, h3⟩ := hc
  obtain ⟨w5, w6, w7, w8, w9, w10, w11, w12, w13⟩ := hw
  obtain ⟨b1, b2, b3⟩ := hs
  unfold F_X1_step f_X1_step
  simp only [bd_e]
  have e1 : gI m c 5 - gI m c 0 = nI (t - s.1) := by rw [w5, h0, pk_sub ht1]
  rw [e1]
  have e2 : gI (sI m c 1 (nI (t - s.1))) c 5 = nI t := by rw [gI_sIa]; simpa using w5
  rw [e2]
  have e3 : gJ (sI (sI m c 1 (nI (t - s.1))) c 0 (nI t)) c 6 = v := w6
  rw [e3]
  have e4 : gI (sJ (sI (sI m c 1 (nI (t - s.1))) c 0 (nI t)) c 2 v) c 9 = nI (wayA s.2.2.2 (v ^^^ s.2.2.1)) := by rw [gI_sJ, gI_sIa, gI_sIa]; simpa using w9
  rw [e4]
  have hway : wayA s.2.2.2 (v ^^^ s.2.2.1) ≤ 7 := by
    rcases wayA_cases s.2.2.2 (v ^^^ s.2.2.1) with ⟨_, h⟩ | ⟨_, h⟩ | ⟨_, h, _⟩ <;> omega
  have c7 : nI (wayA s.2.2.2 (v ^^^ s.2.2.1)) = (7 : Int32) ↔ wayA s.2.2.2 (v ^^^ s.2.2.1) = 7 := nI_eq (b := 7) (by omega) (by omega)
  by_cases h7 : wayA s.2.2.2 (v ^^^ s.2.2.1) = 7
  · rw [if_pos (c7.mpr h7)]
    have e5 : gI (sJ (sI (sI m c 1 (nI (t - s.1))) c 0 (nI t)) c 2 v) c 12 = nI (leadA (v ^^^ s.2.2.1)) := by rw [gI_sJ, gI_sIa, gI_sIa]; simpa using w12
    rw [e5]
    have e6 : gI (sI (sJ (sI (sI m c 1 (nI (t - s.1))) c 0 (nI t)) c 2 v) c 3 (nI (leadA (v ^^^ s.2.2.1)))) c 13 = nI (tz (v ^^^ s.2.2.1)) := by rw [gI_sIa, gI_sJ, gI_sIa, gI_sIa]; simpa using w13
    rw [e6]
    refine ⟨_, rfl, ?_, ?_, rfl, ?_, ?_⟩
    · unfold coR stepA
      simp [h7, gI_sIa, gI_sJ, gJ_sI, gJ_sJa]
    · intro a ha k
      have ha : a ≠ c := ha
      refine ⟨by simp [gI_sI_n, gI_sJ, ha], by simp [gJ_sJ_n, gJ_sI, ha], rfl⟩
    · intro k hk; simp [gI_sIa, gI_sJ, show k ≠ 0 by omega, show k ≠ 1 by omega, show k ≠ 3 by omega, show k ≠ 4 by omega]
    · intro k hk; simp [gJ_sJa, gJ_sI, show k ≠ 2 by omega]
  · rw [if_neg (fun z => h7 (c7.mp z))]
    refine ⟨_, rfl, ?_, ?_, rfl, ?_, ?_⟩
    · unfold coR stepA
      simp only [h7, if_false, gI_sIa, gI_sJ, gJ_sI, gJ_sJa]
      exact ⟨rfl, rfl, rfl, h3⟩
    · intro a ha k
      have ha : a ≠ c := ha
      refine ⟨by simp [gI_sI_n, gI_sJ, ha], by simp [gJ_sJ_n, gJ_sI, ha], rfl⟩
    · intro k hk; simp [gI_sIa, gI_sJ, show k ≠ 0 by omega, show k ≠ 1 by omega]
    · intro k hk; simp [gJ_sJa, gJ_sI, show k ≠ 2 by omega]
theorem begin_ok {K : Kn} {m : Mem} {c t : Nat} {v : Int64} : ∃ m', F_X1_begin K m c (nI t) v = some m' ∧ coR m' c (t, 0, v, none) ∧ eqOn (offc c) m m' ∧ szm m' = szm m := by
  unfold F_X1_begin f_X1_begin
  simp only [bd_e]
  refine ⟨_, rfl, ?_, ?_, rfl⟩
  · unfold coR
    simp only [gI_sIa, gI_sJ, gJ_sI, gJ_sJa]
    exact ⟨rfl, rfl, rfl, rfl, rfl⟩
  · intro a ha k
    have ha : a ≠ c := ha
    refine ⟨by simp [gI_sI_n, gI_sJ, ha], by simp [gJ_sJ_n, gJ_sI, ha], rfl⟩
theorem cbecome_ok {K : Kn} {m : Mem} {c d : Nat} {s : Cs} (hcd : d ≠ c) (h : coR m d s) : ∃ m', F_X1_become K m c d = some m' ∧ coR m' c s ∧ eqOn (offc c) m m' ∧ szm m' = szm m := by
  obtain ⟨h0, h1, h2, h3⟩ := h
  unfold F_X1_become f_X1_become
  simp only [bd_e]
  refine ⟨_, rfl, ?_, ?_, rfl⟩
  · unfold coR
    simp only [gI_sIa, gI_sJ, gJ_sI, gJ_sJa, gI_sI_n (Or.inl hcd), gJ_sJ_n (Or.inl hcd)]
    exact ⟨h0, h1, h2, h3⟩
  · intro a ha k
    have ha : a ≠ c := ha
    refine ⟨by simp [gI_sI_n, gI_sJ, ha], by simp [gJ_sJ_n, gJ_sI, ha], rfl⟩
