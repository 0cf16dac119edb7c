/-! ===== the reader: a point read ===== -/
/-- the class's answer and the reader then: the fault; if none, the point ahead then, the class and way it saw -/
theorem told_ok {K : Kn} {m : Mem} {r : Nat} {s : Cs} {t : Nat} {v : Int64} {k : Nat} {R : Nat × Int64 × Nat × Nat × Nat} (h0 : gR m r 0 = some (r + 1)) (hK : K (r + 1) = some (.inl 1)) (hw : weR m (r + 1) s t v) (h11 : gI m r 11 = nI k) (hk : k ≤ 4) (hR : tvR m r R) (hR1 : R.1 = 5 ∨ R.1 = 6 ∨ R.1 = 7) (h5 : R.1 = 5 → R.2.1 = 0) (hv : v ^^^ s.2.2.1 = R.2.1) (h7 : R.1 = 7 → R.2.2.1 + R.2.2.2.1 ≤ 64 ∧ R.2.2.1 ≤ 31) :
    F_X6_isToldSo K m r = some (if (kindA (secA s t) == k && okB s.2.2.2 R) = true then 1 else 0) := by
  obtain ⟨w5, w6, w7, w8, w9, w10, w11, w12, w13⟩ := hw
  obtain ⟨r12, r15, r16, r7⟩ := hR
  unfold F_X6_isToldSo f_X6_isToldSo f_X6_isToldSo_65 f_X6_isToldSo_69
  simp only [ldO_n h0 hK, bind_e]
  rw [hv] at w9 w12 w13
  rw [w8, w9, w12, w13, h11, r12]
  have hka := kindA_le (secA s t)
  have ck : nI (kindA (secA s t)) = nI k ↔ kindA (secA s t) = k := nI_eq (by omega) (by omega)
  by_cases c1 : kindA (secA s t) = k
  · rw [if_pos (ck.mpr c1)]
    simp only [c1, beq_self_eq_true, Bool.true_and]
    have hwa : wayA s.2.2.2 R.2.1 < 8 := by rcases wayA_cases s.2.2.2 R.2.1 with h | h | h <;> omega
    have cw : nI (wayA s.2.2.2 R.2.1) = nI R.1 ↔ wayA s.2.2.2 R.2.1 = R.1 := nI_eq (by omega) (by omega)
    by_cases c2 : wayA s.2.2.2 R.2.1 = R.1
    · rw [if_pos (cw.mpr c2)]
      have c7 : nI R.1 = (7 : Int32) ↔ R.1 = 7 := nI_eq (b := 7) (by omega) (by omega)
      by_cases c3 : R.1 = 7
      · rw [if_pos (c7.mpr c3)]
        obtain ⟨r13, r14⟩ := r7 c3
        obtain ⟨b1, b2⟩ := h7 c3
        have r14 := r14 b1
        rw [r13, r14]
        have x0 : R.2.1 ≠ 0 := by
          intro z
          rw [z] at c2
          have : wayA s.2.2.2 0 = 5 := by unfold wayA; rw [if_pos rfl]
          omega
        have hl := leadA_le R.2.1
        have hwd := widA_e x0
        have cl : nI (leadA R.2.1) = nI R.2.2.1 ↔ leadA R.2.1 = R.2.2.1 := nI_eq (by omega) (by omega)
        have ct : nI (tz R.2.1) = nI (64 - R.2.2.1 - R.2.2.2.1) ↔ tz R.2.1 = 64 - R.2.2.1 - R.2.2.2.1 := nI_eq (by omega) (by omega)
        by_cases c4 : leadA R.2.1 = R.2.2.1
        · rw [if_pos (cl.mpr c4)]
          by_cases c5 : tz R.2.1 = 64 - R.2.2.1 - R.2.2.2.1
          · rw [if_pos (ct.mpr c5)]
            have : okB s.2.2.2 R = true := by
              unfold okB
              simp only [c2, c3, c4]
              simp; omega
            rw [this]; rfl
          · rw [if_neg (fun z => c5 (ct.mp z))]
            have : okB s.2.2.2 R = false := by
              unfold okB
              simp only [c2, c3, c4]
              simp; omega
            rw [this]; rfl
        · rw [if_neg (fun z => c4 (cl.mp z))]
          have : okB s.2.2.2 R = false := by
            unfold okB
            simp only [c2, c3]
            simp; omega
          rw [this]; rfl
      · rw [if_neg (fun z => c3 (c7.mp z))]
        have : okB s.2.2.2 R = true := by
          unfold okB
          rcases hR1 with h | h | h
          · simp [h]
          · simp [h, c2]
          · omega
        rw [this]; rfl
    · rw [if_neg (fun z => c2 (cw.mp z))]
      have : okB s.2.2.2 R = false := by
        unfold okB
        have n5 : R.1 ≠ 5 := fun z => c2 (by rw [h5 z, z]; unfold wayA; rw [if_pos rfl])
        simp [n5, c2]
      rw [this]; rfl
  · rw [if_neg (fun z => c1 (ck.mp z))]
    have : (kindA (secA s t) == k && okB s.2.2.2 R) = false := by simp [c1]
    rw [this]; rfl
