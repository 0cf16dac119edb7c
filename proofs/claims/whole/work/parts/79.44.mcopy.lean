/-! ===== the reference copies a series; a block goes ===== -/
def cpi {α : Type} (g g0 : Nat → α) (F T N k : Nat) : Prop := (∀ i, i < k → g (T + i) = g0 (F + i)) ∧ ∀ i, i < N → g (F + i) = g0 (F + i)
theorem cpi_0 {α : Type} (g : Nat → α) (F T N : Nat) : cpi g g F T N 0 := ⟨fun i hi => absurd hi (Nat.not_lt_zero _), fun _ _ => rfl⟩
theorem cpi_step {α : Type} {g g' g0 : Nat → α} {F T N k : Nat} (h : cpi g g0 F T N k) (hk : k < N) (hd : F = T ∨ F + N ≤ T ∨ T + N ≤ F) (h1 : g' (T + k) = g (F + k)) (h2 : ∀ x, x ≠ T + k → g' x = g x) : cpi g' g0 F T N (k + 1) := by
  obtain ⟨a1, a2⟩ := h
  refine ⟨fun i hi => ?_, fun i hi => ?_⟩
  · by_cases c : i = k
    · rw [c, h1]; exact a2 k hk
    · rw [h2 _ (by omega)]; exact a1 i (by omega)
  · by_cases c : F + i = T + k
    · have e : F = T := by omega
      have e2 : i = k := by omega
      rw [c, h1, ← c, e2]
      exact a2 k hk
    · rw [h2 _ c]; exact a2 i hi
def WT (A j : Nat) : Nat → Nat → Prop := fun a k => ((a = A + 1 ∨ a = A + 2 ∨ a = A + 3 ∨ a = A + 10) ∧ k = j) ∨ (a = A + 4 ∧ 3200 * j ≤ k ∧ k < 3200 * j + 3200) ∨ (A + 5 ≤ a ∧ a ≤ A + 9 ∧ 16 * j ≤ k ∧ k < 16 * j + 16) ∨ ((a = A + 11 ∨ a = A + 12) ∧ 20 * j ≤ k ∧ k < 20 * j + 20)
theorem cp_50 {K : Kn} {m : Mem} {A from_ to_ : Nat} (hF : from_ < 5) (hT : to_ < 5) : ∀ (f k : Nat) (mq : Mem), k ≤ 3200 → 3200 - k < f → MS K mq A → cpi (gI mq (A + 4)) (gI m (A + 4)) (3200 * from_) (3200 * to_) 3200 k → ∃ m', f_X9_copiesTo_50 K A (nI from_) (nI to_) f mq (nI k) = f_X9_copiesTo_89 K A (nI from_) (nI to_) FU m' (0 : Int32) ∧ cpi (gI m' (A + 4)) (gI m (A + 4)) (3200 * from_) (3200 * to_) 3200 3200 ∧ fr (fun a k => a = A + 4 ∧ 3200 * to_ ≤ k ∧ k < 3200 * to_ + 3200) mq m'
  | 0, _, _, _, h, _, _ => absurd h (Nat.not_lt_zero _)
  | f + 1, k, mq, hk, hf, h, hc => by
    have unf : f_X9_copiesTo_50 K A (nI from_) (nI to_) (f + 1) mq (nI k) = f_X9_copiesTo_50B K A (nI from_) (nI to_) (f_X9_copiesTo_50 K A (nI from_) (nI to_) f) mq (nI k) := rfl
    rw [unf]
    unfold f_X9_copiesTo_50B
    have i1 : (3200 : Int32) ≤ nI k ↔ 3200 ≤ k := nI_leI (a := 3200) (by omega) (by omega)
    by_cases c : 3200 ≤ k
    · rw [if_pos (i1.mpr c)]
      have e : k = 3200 := by omega
      subst e
      exact ⟨mq, rfl, hc, fr.refl mq⟩
    · rw [if_neg (fun z => c (i1.mp z)), h.d3, bind_e, bind_e, show (3200 : Int32) = nI 3200 from rfl, nI_mul, nI_mul, nI_add, nI_add, h.g3 (by omega), bind_e, h.s3 (by omega), bind_e, bd_e, nI_1]
      have fM : fr (fun a k => a = A + 4 ∧ 3200 * to_ ≤ k ∧ k < 3200 * to_ + 3200) mq (sI mq (A + 4) (3200 * to_ + k) (gI mq (A + 4) (3200 * from_ + k))) := fr_sI ⟨rfl, by omega, by omega⟩
      obtain ⟨m', r1, r2, r3⟩ := cp_50 (K := K) hF hT f (k + 1) _ (by omega) (by omega) (h.on fM) (cpi_step hc (by omega) (by omega) gI_sI_s (fun x hx => gI_sI_n (Or.inr hx)))
      exact ⟨m', r1, r2, fM.trans r3⟩
def c5 (m mq : Mem) (A from_ to_ k : Nat) : Prop := cpi (gI mq (A + 5)) (gI m (A + 5)) (16 * from_) (16 * to_) 16 k ∧ cpi (gI mq (A + 6)) (gI m (A + 6)) (16 * from_) (16 * to_) 16 k ∧ cpi (gI mq (A + 7)) (gI m (A + 7)) (16 * from_) (16 * to_) 16 k ∧ cpi (gI mq (A + 8)) (gI m (A + 8)) (16 * from_) (16 * to_) 16 k ∧ cpi (gI mq (A + 9)) (gI m (A + 9)) (16 * from_) (16 * to_) 16 k
/-- five cells of a block, as they lie at another one -/
def mv5 (m : Mem) (A f t : Nat) : Mem := sI (sI (sI (sI (sI m (A + 5) t (gI m (A + 5) f)) (A + 6) t (gI m (A + 6) f)) (A + 7) t (gI m (A + 7) f)) (A + 8) t (gI m (A + 8) f)) (A + 9) t (gI m (A + 9) f)
theorem mv5_fr (m : Mem) (A f t : Nat) : fr (fun a k => A + 5 ≤ a ∧ a ≤ A + 9 ∧ k = t) m (mv5 m A f t) := by
  unfold mv5
  exact ((((fr_sI ⟨by omega, by omega, rfl⟩).trans (fr_sI ⟨by omega, by omega, rfl⟩)).trans (fr_sI ⟨by omega, by omega, rfl⟩)).trans (fr_sI ⟨by omega, by omega, rfl⟩)).trans (fr_sI ⟨by omega, by omega, rfl⟩)
theorem mv5_g (m : Mem) (A f t : Nat) : gI (mv5 m A f t) (A + 5) t = gI m (A + 5) f ∧ gI (mv5 m A f t) (A + 6) t = gI m (A + 6) f ∧ gI (mv5 m A f t) (A + 7) t = gI m (A + 7) f ∧ gI (mv5 m A f t) (A + 8) t = gI m (A + 8) f ∧ gI (mv5 m A f t) (A + 9) t = gI m (A + 9) f := by
  unfold mv5
  refine ⟨?_, ?_, ?_, ?_, gI_sI_s⟩
  · rw [gI_sI_n (Or.inl (by omega)), gI_sI_n (Or.inl (by omega)), gI_sI_n (Or.inl (by omega)), gI_sI_n (Or.inl (by omega)), gI_sI_s]
  · rw [gI_sI_n (Or.inl (by omega)), gI_sI_n (Or.inl (by omega)), gI_sI_n (Or.inl (by omega)), gI_sI_s]
  · rw [gI_sI_n (Or.inl (by omega)), gI_sI_n (Or.inl (by omega)), gI_sI_s]
  · rw [gI_sI_n (Or.inl (by omega)), gI_sI_s]
theorem c5_step {m mq : Mem} {A from_ to_ k : Nat} (h : c5 m mq A from_ to_ k) (hk : k < 16) : c5 m (mv5 mq A (16 * from_ + k) (16 * to_ + k)) A from_ to_ (k + 1) := by
  obtain ⟨h1, h2, h3, h4, h5⟩ := h
  obtain ⟨g1, g2, g3, g4, g5⟩ := mv5_g mq A (16 * from_ + k) (16 * to_ + k)
  have fM := mv5_fr mq A (16 * from_ + k) (16 * to_ + k)
  exact ⟨cpi_step h1 hk (by omega) g1 (fun x hx => fM.I (fun z => by omega)), cpi_step h2 hk (by omega) g2 (fun x hx => fM.I (fun z => by omega)), cpi_step h3 hk (by omega) g3 (fun x hx => fM.I (fun z => by omega)), cpi_step h4 hk (by omega) g4 (fun x hx => fM.I (fun z => by omega)), cpi_step h5 hk (by omega) g5 (fun x hx => fM.I (fun z => by omega))⟩
theorem cp_89 {K : Kn} {m : Mem} {A from_ to_ : Nat} (hF : from_ < 5) (hT : to_ < 5) (hz : zM m A) : ∀ (f k : Nat) (mq : Mem), k ≤ 16 → 16 - k < f → MS K mq A → c5 m mq A from_ to_ k → ∃ m', f_X9_copiesTo_89 K A (nI from_) (nI to_) f mq (nI k) = f_X9_copiesTo_213 K A (nI from_) (nI to_) FU m' (0 : Int32) ∧ c5 m m' A from_ to_ 16 ∧ fr (fun a k => A + 5 ≤ a ∧ a ≤ A + 9 ∧ 16 * to_ ≤ k ∧ k < 16 * to_ + 16) mq m'
  | 0, _, _, _, h, _, _ => absurd h (Nat.not_lt_zero _)
  | f + 1, k, mq, hk, hf, h, hc => by
    have unf : f_X9_copiesTo_89 K A (nI from_) (nI to_) (f + 1) mq (nI k) = f_X9_copiesTo_89B K A (nI from_) (nI to_) (f_X9_copiesTo_89 K A (nI from_) (nI to_) f) mq (nI k) := rfl
    rw [unf]
    unfold f_X9_copiesTo_89B
    have i1 : (16 : Int32) ≤ nI k ↔ 16 ≤ k := nI_leI (a := 16) (by omega) (by omega)
    by_cases c : 16 ≤ k
    · rw [if_pos (i1.mpr c)]
      have e : k = 16 := by omega
      subst e
      exact ⟨mq, rfl, hc, fr.refl mq⟩
    · rw [if_neg (fun z => c (i1.mp z)), show (16 : Int32) = nI 16 from rfl, nI_mul, nI_mul, nI_add, nI_add]
      have hf80 : 16 * from_ + k < 80 := by omega
      have ht80 : 16 * to_ + k < 80 := by omega
      have s1 : ∀ v, MS K (sI mq (A + 5) (16 * to_ + k) v) A := fun v => h.on (fr_sI (W := fun _ _ => True) trivial)
      have s2 : ∀ v w, MS K (sI (sI mq (A + 5) (16 * to_ + k) v) (A + 6) (16 * to_ + k) w) A := fun v w => (s1 v).on (fr_sI (W := fun _ _ => True) trivial)
      have s3 : ∀ v w x, MS K (sI (sI (sI mq (A + 5) (16 * to_ + k) v) (A + 6) (16 * to_ + k) w) (A + 7) (16 * to_ + k) x) A := fun v w x => (s2 v w).on (fr_sI (W := fun _ _ => True) trivial)
      have s4 : ∀ v w x y, MS K (sI (sI (sI (sI mq (A + 5) (16 * to_ + k) v) (A + 6) (16 * to_ + k) w) (A + 7) (16 * to_ + k) x) (A + 8) (16 * to_ + k) y) A := fun v w x y => (s3 v w x).on (fr_sI (W := fun _ _ => True) trivial)
      have h7 : gI mq (A + 7) (16 * from_ + k) = 0 ∨ gI mq (A + 7) (16 * from_ + k) = 1 := by rw [hc.2.2.1.2 k (by omega)]; exact hz _ hf80
      rw [h.d4, bind_e, bind_e, h.g4 hf80, bind_e, h.s4 ht80, bind_e, (s1 _).d5, bind_e, bind_e, (s1 _).g5 hf80, bind_e, gI_sI_n (Or.inl (by omega)), (s1 _).s5 ht80, bind_e, (s2 _ _).d6, bind_e, bind_e, (s2 _ _).g6 hf80, bind_e, gI_sI_n (Or.inl (by omega)), gI_sI_n (Or.inl (by omega)), (s2 _ _).s6 ht80 h7, bind_e, (s3 _ _ _).d7, bind_e, bind_e, (s3 _ _ _).g7 hf80, bind_e, gI_sI_n (Or.inl (by omega)), gI_sI_n (Or.inl (by omega)), gI_sI_n (Or.inl (by omega)), (s3 _ _ _).s7 ht80, bind_e, (s4 _ _ _ _).d8, bind_e, bind_e, (s4 _ _ _ _).g8 hf80, bind_e, gI_sI_n (Or.inl (by omega)), gI_sI_n (Or.inl (by omega)), gI_sI_n (Or.inl (by omega)), gI_sI_n (Or.inl (by omega)), (s4 _ _ _ _).s8 ht80, bind_e, bd_e, nI_1]
      have fM := mv5_fr mq A (16 * from_ + k) (16 * to_ + k)
      obtain ⟨m', r1, r2, r3⟩ := cp_89 (K := K) hF hT hz f (k + 1) (mv5 mq A (16 * from_ + k) (16 * to_ + k)) (by omega) (by omega) (h.on fM) (c5_step hc (by omega))
      exact ⟨m', r1, r2, (fM.mono (fun a j z => by omega)).trans r3⟩
theorem cp_213 {K : Kn} {m : Mem} {A from_ to_ : Nat} (hF : from_ < 5) (hT : to_ < 5) : ∀ (f k : Nat) (mq : Mem), k ≤ 20 → 20 - k < f → MS K mq A → cpi (gI mq (A + 11)) (gI m (A + 11)) (20 * from_) (20 * to_) 20 k → cpi (gJ mq (A + 12)) (gJ m (A + 12)) (20 * from_) (20 * to_) 20 k → ∃ m', f_X9_copiesTo_213 K A (nI from_) (nI to_) f mq (nI k) = some m' ∧ cpi (gI m' (A + 11)) (gI m (A + 11)) (20 * from_) (20 * to_) 20 20 ∧ cpi (gJ m' (A + 12)) (gJ m (A + 12)) (20 * from_) (20 * to_) 20 20 ∧ fr (fun a k => (a = A + 11 ∨ a = A + 12) ∧ 20 * to_ ≤ k ∧ k < 20 * to_ + 20) mq m'
  | 0, _, _, _, h, _, _, _ => absurd h (Nat.not_lt_zero _)
  | f + 1, k, mq, hk, hf, h, hc, hd => by
    have unf : f_X9_copiesTo_213 K A (nI from_) (nI to_) (f + 1) mq (nI k) = f_X9_copiesTo_213B K A (nI from_) (nI to_) (f_X9_copiesTo_213 K A (nI from_) (nI to_) f) mq (nI k) := rfl
    rw [unf]
    unfold f_X9_copiesTo_213B
    have i1 : (20 : Int32) ≤ nI k ↔ 20 ≤ k := nI_leI (a := 20) (by omega) (by omega)
    by_cases c : 20 ≤ k
    · rw [if_pos (i1.mpr c)]
      have e : k = 20 := by omega
      subst e
      exact ⟨mq, rfl, hc, hd, fr.refl mq⟩
    · have s1 : ∀ v, MS K (sI mq (A + 11) (20 * to_ + k) v) A := fun v => h.on (fr_sI (W := fun _ _ => True) trivial)
      rw [if_neg (fun z => c (i1.mp z)), show (20 : Int32) = nI 20 from rfl, nI_mul, nI_mul, nI_add, nI_add, h.d10, bind_e, bind_e, h.g10 (by omega), bind_e, h.s10 (by omega), bind_e, (s1 _).d11, bind_e, bind_e, (s1 _).g11 (by omega), bind_e, (s1 _).s11 (by omega), bind_e, bd_e, nI_1]
      have fM : fr (fun a k => (a = A + 11 ∨ a = A + 12) ∧ 20 * to_ ≤ k ∧ k < 20 * to_ + 20) mq (sJ (sI mq (A + 11) (20 * to_ + k) (gI mq (A + 11) (20 * from_ + k))) (A + 12) (20 * to_ + k) (gJ (sI mq (A + 11) (20 * to_ + k) (gI mq (A + 11) (20 * from_ + k))) (A + 12) (20 * from_ + k))) := (fr_sI ⟨Or.inl rfl, by omega, by omega⟩).trans (fr_sJ ⟨Or.inr rfl, by omega, by omega⟩)
      obtain ⟨m', r1, r2, r3, r4⟩ := cp_213 (K := K) (m := m) hF hT f (k + 1) _ (by omega) (by omega) (h.on fM) (cpi_step hc (by omega) (by omega) gI_sI_s (fun x hx => gI_sI_n (Or.inr hx))) (cpi_step hd (by omega) (by omega) gJ_sJ_s (fun x hx => gJ_sJ_n (Or.inr hx)))
      exact ⟨m', r1, r2, r3, fM.trans r4⟩
/-- one slot holds what another one held -/
def cpd (m m' : Mem) (A from_ to_ : Nat) : Prop := (gI m' (A + 1) to_ = gI m (A + 1) from_ ∧ gI m' (A + 2) to_ = gI m (A + 2) from_ ∧ gI m' (A + 3) to_ = gI m (A + 3) from_ ∧ gI m' (A + 10) to_ = gI m (A + 10) from_) ∧ (∀ i, i < 3200 → gI m' (A + 4) (3200 * to_ + i) = gI m (A + 4) (3200 * from_ + i)) ∧ (∀ i, i < 16 → gI m' (A + 5) (16 * to_ + i) = gI m (A + 5) (16 * from_ + i) ∧ gI m' (A + 6) (16 * to_ + i) = gI m (A + 6) (16 * from_ + i) ∧ gI m' (A + 7) (16 * to_ + i) = gI m (A + 7) (16 * from_ + i) ∧ gI m' (A + 8) (16 * to_ + i) = gI m (A + 8) (16 * from_ + i) ∧ gI m' (A + 9) (16 * to_ + i) = gI m (A + 9) (16 * from_ + i)) ∧ ∀ i, i < 20 → gI m' (A + 11) (20 * to_ + i) = gI m (A + 11) (20 * from_ + i) ∧ gJ m' (A + 12) (20 * to_ + i) = gJ m (A + 12) (20 * from_ + i)
theorem copiesTo_ok {K : Kn} {m : Mem} {A from_ to_ : Nat} (h : MS K m A) (hz : zM m A) (hF : from_ < 5) (hT : to_ < 5) : ∃ m', F_X9_copiesTo K m A (nI from_) (nI to_) = some m' ∧ cpd m m' A from_ to_ ∧ fr (WT A to_) m m' ∧ zM m' A := by
  unfold F_X9_copiesTo f_X9_copiesTo
  have s1 : MS K (sI m (A + 1) to_ (gI m (A + 1) from_)) A := h.on (fr_sI (W := fun _ _ => True) trivial)
  have s2 : MS K (sI (sI m (A + 1) to_ (gI m (A + 1) from_)) (A + 2) to_ (gI m (A + 2) from_)) A := s1.on (fr_sI (W := fun _ _ => True) trivial)
  have s3 : MS K (sI (sI (sI m (A + 1) to_ (gI m (A + 1) from_)) (A + 2) to_ (gI m (A + 2) from_)) (A + 3) to_ (gI m (A + 3) from_)) A := s2.on (fr_sI (W := fun _ _ => True) trivial)
  rw [h.d0, bind_e, bind_e, h.g0 hF, bind_e, h.s0 hT, bind_e, s1.d1, bind_e, bind_e, s1.g1 hF, bind_e, gI_sI_n (Or.inl (by omega)), s1.s1 hT, bind_e, s2.d2, bind_e, bind_e, s2.g2 hF, bind_e, gI_sI_n (Or.inl (by omega)), gI_sI_n (Or.inl (by omega)), s2.s2 hT, bind_e, s3.d9, bind_e, bind_e, s3.g9 hF, bind_e, gI_sI_n (Or.inl (by omega)), gI_sI_n (Or.inl (by omega)), gI_sI_n (Or.inl (by omega)), s3.s9 hT, bind_e]
  have fM : fr (fun a k => (a = A + 1 ∨ a = A + 2 ∨ a = A + 3 ∨ a = A + 10) ∧ k = to_) m (sI (sI (sI (sI m (A + 1) to_ (gI m (A + 1) from_)) (A + 2) to_ (gI m (A + 2) from_)) (A + 3) to_ (gI m (A + 3) from_)) (A + 10) to_ (gI m (A + 10) from_)) := (((fr_sI ⟨by omega, rfl⟩).trans (fr_sI ⟨by omega, rfl⟩)).trans (fr_sI ⟨by omega, rfl⟩)).trans (fr_sI ⟨by omega, rfl⟩)
  have g1 : gI (sI (sI (sI (sI m (A + 1) to_ (gI m (A + 1) from_)) (A + 2) to_ (gI m (A + 2) from_)) (A + 3) to_ (gI m (A + 3) from_)) (A + 10) to_ (gI m (A + 10) from_)) (A + 1) to_ = gI m (A + 1) from_ := by rw [gI_sI_n (Or.inl (by omega)), gI_sI_n (Or.inl (by omega)), gI_sI_n (Or.inl (by omega)), gI_sI_s]
  have g2 : gI (sI (sI (sI (sI m (A + 1) to_ (gI m (A + 1) from_)) (A + 2) to_ (gI m (A + 2) from_)) (A + 3) to_ (gI m (A + 3) from_)) (A + 10) to_ (gI m (A + 10) from_)) (A + 2) to_ = gI m (A + 2) from_ := by rw [gI_sI_n (Or.inl (by omega)), gI_sI_n (Or.inl (by omega)), gI_sI_s]
  have g3 : gI (sI (sI (sI (sI m (A + 1) to_ (gI m (A + 1) from_)) (A + 2) to_ (gI m (A + 2) from_)) (A + 3) to_ (gI m (A + 3) from_)) (A + 10) to_ (gI m (A + 10) from_)) (A + 3) to_ = gI m (A + 3) from_ := by rw [gI_sI_n (Or.inl (by omega)), gI_sI_s]
  have g4 : gI (sI (sI (sI (sI m (A + 1) to_ (gI m (A + 1) from_)) (A + 2) to_ (gI m (A + 2) from_)) (A + 3) to_ (gI m (A + 3) from_)) (A + 10) to_ (gI m (A + 10) from_)) (A + 10) to_ = gI m (A + 10) from_ := gI_sI_s
  generalize sI (sI (sI (sI m (A + 1) to_ (gI m (A + 1) from_)) (A + 2) to_ (gI m (A + 2) from_)) (A + 3) to_ (gI m (A + 3) from_)) (A + 10) to_ (gI m (A + 10) from_) = M at fM g1 g2 g3 g4 ⊢
  have e4 : gI M (A + 4) = gI m (A + 4) := funext fun k => fM.I (fun z => by omega)
  have e5 : ∀ a, A + 5 ≤ a → a ≤ A + 9 → gI M a = gI m a := fun a h1 h2 => funext fun k => fM.I (fun z => by omega)
  have e11 : gI M (A + 11) = gI m (A + 11) := funext fun k => fM.I (fun z => by omega)
  have e12 : gJ M (A + 12) = gJ m (A + 12) := funext fun k => fM.J (fun z => by omega)
  obtain ⟨M1, a1, a2, a3⟩ := cp_50 (K := K) (m := m) hF hT FU 0 M (by omega) (by rw [FU_e]; omega) (h.on fM) (by rw [e4]; exact cpi_0 _ _ _ _)
  have hM1 := (h.on fM).on a3
  have e5' : ∀ a, A + 5 ≤ a → a ≤ A + 9 → gI M1 a = gI m a := fun a h1 h2 => (funext fun k => a3.I (fun z => by omega) : gI M1 a = gI M a).trans (e5 a h1 h2)
  obtain ⟨M2, b1, b2, b3⟩ := cp_89 (K := K) (m := m) hF hT hz FU 0 M1 (by omega) (by rw [FU_e]; omega) hM1 ⟨by rw [e5' _ (by omega) (by omega)]; exact cpi_0 _ _ _ _, by rw [e5' _ (by omega) (by omega)]; exact cpi_0 _ _ _ _, by rw [e5' _ (by omega) (by omega)]; exact cpi_0 _ _ _ _, by rw [e5' _ (by omega) (by omega)]; exact cpi_0 _ _ _ _, by rw [e5' _ (by omega) (by omega)]; exact cpi_0 _ _ _ _⟩
  have hM2 := hM1.on b3
  have e11' : gI M2 (A + 11) = gI m (A + 11) := (funext fun k => (b3.I (fun z => by omega)).trans (a3.I (fun z => by omega)) : gI M2 (A + 11) = gI M (A + 11)).trans e11
  have e12' : gJ M2 (A + 12) = gJ m (A + 12) := (funext fun k => (b3.J (fun z => by omega)).trans (a3.J (fun z => by omega)) : gJ M2 (A + 12) = gJ M (A + 12)).trans e12
  obtain ⟨M3, c1, c2, c3, c4⟩ := cp_213 (K := K) (m := m) hF hT FU 0 M2 (by omega) (by rw [FU_e]; omega) hM2 (by rw [e11']; exact cpi_0 _ _ _ _) (by rw [e12']; exact cpi_0 _ _ _ _)
  have a1 : f_X9_copiesTo_50 K A (nI from_) (nI to_) FU M (0 : Int32) = _ := a1
  have b1 : f_X9_copiesTo_89 K A (nI from_) (nI to_) FU M1 (0 : Int32) = _ := b1
  have c1 : f_X9_copiesTo_213 K A (nI from_) (nI to_) FU M2 (0 : Int32) = _ := c1
  rw [a1, b1, c1]
  have t1 : ∀ a k, a ≠ A + 4 → ¬ (A + 5 ≤ a ∧ a ≤ A + 9) → a ≠ A + 11 → a ≠ A + 12 → gI M3 a k = gI M a k := fun a k z1 z2 z3 z4 => (c4.I (fun z => by omega)).trans ((b3.I (fun z => by omega)).trans (a3.I (fun z => by omega)))
  have hfr : fr (WT A to_) m M3 := (((fM.mono (fun a k z => Or.inl z)).trans (a3.mono (fun a k z => Or.inr (Or.inl z)))).trans (b3.mono (fun a k z => Or.inr (Or.inr (Or.inl ⟨z.1, z.2.1, z.2.2.1, z.2.2.2⟩))))).trans (c4.mono (fun a k z => Or.inr (Or.inr (Or.inr z))))
  have hcd : cpd m M3 A from_ to_ := by
    refine ⟨⟨(t1 _ _ (by omega) (by omega) (by omega) (by omega)).trans g1, (t1 _ _ (by omega) (by omega) (by omega) (by omega)).trans g2, (t1 _ _ (by omega) (by omega) (by omega) (by omega)).trans g3, (t1 _ _ (by omega) (by omega) (by omega) (by omega)).trans g4⟩, fun i hi => ?_, fun i hi => ⟨?_, ?_, ?_, ?_, ?_⟩, fun i hi => ⟨c2.1 i hi, c3.1 i hi⟩⟩
    · rw [c4.I (fun z => by omega), b3.I (fun z => by omega)]; exact a2.1 i hi
    · rw [c4.I (fun z => by omega)]; exact b2.1.1 i hi
    · rw [c4.I (fun z => by omega)]; exact b2.2.1.1 i hi
    · rw [c4.I (fun z => by omega)]; exact b2.2.2.1.1 i hi
    · rw [c4.I (fun z => by omega)]; exact b2.2.2.2.1.1 i hi
    · rw [c4.I (fun z => by omega)]; exact b2.2.2.2.2.1 i hi
  refine ⟨M3, rfl, hcd, hfr, fun q hq => ?_⟩
  by_cases cq : 16 * to_ ≤ q ∧ q < 16 * to_ + 16
  · have := (hcd.2.2.1 (q - 16 * to_) (by omega)).2.2.1
    rw [show 16 * to_ + (q - 16 * to_) = q by omega] at this
    rw [this]; exact hz _ (by omega)
  · rw [hfr.I (fun z => by unfold WT at z; omega)]; exact hz q hq
theorem mbR.move {m m' : Mem} {A q q' : Nat} {b : Bk} (h : mbR m A q b) (h4 : ∀ i, i < b.2.1 → gI m' (A + 4) (200 * q' + i) = gI m (A + 4) (200 * q + i)) (h5 : gI m' (A + 5) q' = gI m (A + 5) q) (h6 : gI m' (A + 6) q' = gI m (A + 6) q) (h7 : gI m' (A + 7) q' = gI m (A + 7) q) (h8 : gI m' (A + 8) q' = gI m (A + 8) q) (h9 : gI m' (A + 9) q' = gI m (A + 9) q) : mbR m' A q' b := by
  obtain ⟨a1, a2, a3, a4, a5⟩ := h
  exact ⟨fun i hi => (h4 i hi).trans (a1 i hi), h5.trans a2, h7.trans a3, fun hs => ⟨h8.trans (a4 hs).1, h9.trans (a4 hs).2⟩, fun hs p c l hr => h6.trans (a5 hs p c l hr)⟩
theorem smR.copy {m m' : Mem} {A from_ to_ : Nat} {S : Sr} (hS : srOk S) (h : smR m A from_ S) (hc : cpd m m' A from_ to_) : smR m' A to_ S := by
  obtain ⟨a1, a2, a3, a4, L, l1, l2, l3⟩ := h
  obtain ⟨⟨c1, c2, c3, c4⟩, c5, c6, c7⟩ := hc
  have hl16 := hS.2.2.2.2.2.2.2.1
  have hl20 := hS.2.2.2.2.1
  refine ⟨c1.trans a1, c2.trans a2, c3.trans a3, fun k b hb => ?_, L, l1, c4.trans l2, fun i x hx => ?_⟩
  · have hk := (List.getElem?_eq_some_iff.mp hb).1
    have h200 := (hS.2.2.2.2.2.2.2.2.1 b (List.mem_of_getElem? hb)).1.2.2.1
    obtain ⟨d5, d6, d7, d8, d9⟩ := c6 k (by omega)
    refine (a4 k b hb).move (fun i hi => ?_) d5 d6 d7 d8 d9
    have := c5 (200 * k + i) (by omega)
    rw [show 3200 * to_ + (200 * k + i) = 200 * (16 * to_ + k) + i by omega, show 3200 * from_ + (200 * k + i) = 200 * (16 * from_ + k) + i by omega] at this
    exact this
  · have hi := (List.getElem?_eq_some_iff.mp hx).1
    have := l1.length_eq
    exact ⟨(c7 i (by omega)).1.trans (l3 i x hx).1, (c7 i (by omega)).2.trans (l3 i x hx).2⟩
theorem WT_UP {A j : Nat} {m m' : Mem} (h : fr (WT A j) m m') (hz : zM m' A) : UP A j m m' := UP.of h (fun a k z => by
  refine ⟨?_, by unfold WT at z; omega⟩
  rcases z with z | z | z | z
  · exact Or.inr (Or.inl z)
  · exact Or.inr (Or.inr (Or.inl z))
  · by_cases c : a = A + 6
    · exact Or.inl (Or.inr (Or.inr (Or.inl c)))
    · exact Or.inr (Or.inr (Or.inr (Or.inl ⟨by omega, z.2.2⟩)))
  · exact Or.inr (Or.inr (Or.inr (Or.inr z)))) (fun _ => hz)
theorem mcopy_ok {K : Kn} {m : Mem} {A : Nat} {s : St} (hok : stOk s) (h : RM K m A s) (x y : Int32) : okM K m A (F_X9_copy K m A x y) (nCopy s x y).1 (nCopy s x y).2 := by
  unfold F_X9_copy f_X9_copy nCopy
  rcases isSeries_ok hok h x with ⟨hs, hn⟩ | ⟨S, hs, hn⟩
  · rw [hn, hs, bind_e, if_pos rfl]; exact okM.same h
  · rw [hn, hs, bind_e, if_neg (by decide), in_3b, bind_e]
    dsimp only
    by_cases c : slt y = true
    · rw [if_pos c, if_pos c, if_neg (by decide)]
      obtain ⟨j, hj, rfl, hsj, hS, hm⟩ := h.at hok hs
      obtain ⟨t, ht, rfl, hc⟩ := slt_nI c
      obtain ⟨m1, r1, r2, r3, r4⟩ := copiesTo_ok (K := K) (from_ := j) (to_ := t) h.1 h.2.2.2.2 (by omega) (by omega)
      rw [r1, bind_e, hc]
      exact okM.up hok h ht (WT_UP r3 r4) (hm.copy hS r2)
    · rw [if_neg c, if_neg c, if_pos rfl]; exact okM.same h
