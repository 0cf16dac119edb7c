/-! ===== the reference reads a block whole ===== -/
def arM (m : Mem) (A : Nat) (l : List PtR) : Prop := ∀ (i : Nat) (x : PtR), l[i]? = some x → gJ m (A + 14) i = lN x.1 ∧ gJ m (A + 15) i = x.2.1 ∧ (1 ≤ i → gI m (A + 16) i = nI x.2.2.1 ∧ gI m (A + 17) i = nI x.2.2.2.1 ∧ gI m (A + 18) i = nI x.2.2.2.2)
def WQ (A q : Nat) : Nat → Nat → Prop := fun a k => (a = A ∧ (14 ≤ k ∧ k ≤ 20 ∨ 26 ≤ k ∧ k ≤ 29)) ∨ (A + 14 ≤ a ∧ a ≤ A + 18) ∨ (a = A + 6 ∧ k = q)
theorem WC_WQ {A q a k : Nat} (h : WC A a k) : WQ A q a k := Or.inl ⟨h.1, Or.inl h.2⟩
theorem WR_WQ {A q r a k : Nat} (h : WR A r a k) : WQ A q a k := by unfold WR at h; unfold WQ; omega
def rdRes (m' : Mem) (A q : Nat) (X : (Nat × Int) ⊕ (Nat × Cs × List PtR)) : Prop := match X with
  | .inl e => gI m' A 27 = nI e.1 ∧ gI m' A 28 = iZ e.2
  | .inr r => gI m' A 27 = 0 ∧ gI m' A 28 = iZ (-1) ∧ gI m' A 26 = nI r.2.2.length ∧ csM m' A r.2.1 ∧ gI m' A 20 = nI r.1 ∧ gI m' (A + 6) q = nI r.1 ∧ arM m' A r.2.2
def WK (A r : Nat) : Nat → Nat → Prop := fun a k => (a = A ∧ k = 26) ∨ (A + 14 ≤ a ∧ a ≤ A + 16 ∧ k = r)
theorem WK_WQ {A q r a k : Nat} (h : WK A r a k) : WQ A q a k := by unfold WK at h; unfold WQ; omega
theorem keepsOne_ok {K : Kn} {m : Mem} {A r : Nat} {x : Int32} (h : MS K m A) (h26 : gI m A 26 = nI r) (hr : r < 800) : ∃ m', F_X9_keepsOne K m A x = some m' ∧ gJ m' (A + 14) r = gJ m A 14 ∧ gJ m' (A + 15) r = gJ m A 16 ∧ gI m' (A + 16) r = gI m A 20 - x ∧ gI m' A 26 = nI (r + 1) ∧ fr (WK A r) m m' := by
  unfold F_X9_keepsOne f_X9_keepsOne
  have h1 : MS K (sJ m (A + 14) r (gJ m A 14)) A := h.on (fr_sJ (W := fun _ _ => True) trivial)
  have h2 : MS K (sJ (sJ m (A + 14) r (gJ m A 14)) (A + 15) r (gJ m A 16)) A := h1.on (fr_sJ (W := fun _ _ => True) trivial)
  rw [h.d21, bind_e, h26, h.s21 hr, bind_e, h1.d22, bind_e, gI_sJ, h26, gJ_sJ_n (Or.inl (by omega)), h1.s22 hr, bind_e, h2.d23, bind_e, gI_sJ, gI_sJ, h26, gI_sJ, gI_sJ, h2.s23 hr, bind_e, bd_e, gI_sI_n (Or.inl (by omega)), gI_sJ, gI_sJ, h26, nI_1]
  refine ⟨_, rfl, ?_, ?_, ?_, gI_sI_s, ?_⟩
  · rw [gJ_sI, gJ_sI, gJ_sJ_n (Or.inl (by omega)), gJ_sJ_s]
  · rw [gJ_sI, gJ_sI, gJ_sJ_s]
  · rw [gI_sI_n (Or.inl (by omega)), gI_sI_s]
  · exact (((fr_sJ (Or.inr ⟨by omega, by omega, rfl⟩)).trans (fr_sJ (Or.inr ⟨by omega, by omega, rfl⟩))).trans (fr_sI (Or.inr ⟨by omega, by omega, rfl⟩))).trans (fr_sI (Or.inl ⟨rfl, rfl⟩))
theorem faults_ok {K : Kn} {m : Mem} {A : Nat} {x y : Int32} : ∃ m', F_X9_faults K m A x y = some m' ∧ gI m' A 27 = x ∧ gI m' A 28 = y ∧ fr (fun a k => a = A ∧ (k = 27 ∨ k = 28)) m m' := by
  unfold F_X9_faults f_X9_faults
  refine ⟨_, rfl, ?_, gI_sI_s, ?_⟩
  · rw [gI_sI_n (Or.inr (by decide)), gI_sI_s]
  · exact (fr_sI ⟨rfl, Or.inl rfl⟩).trans (fr_sI ⟨rfl, Or.inr rfl⟩)
theorem ra_263 {K : Kn} {m : Mem} {A q n L : Nat} {by_ : Nat → Nat} {c : Cs} (h : rM K m A q n by_ L c) : ∀ (f k : Nat), k ≤ L → L - k < f → f_X9_readsAll_263 K A (nI q) f m (0 : Int32) (nI k) = f_X9_readsAll_301 K A (nI q) m (if num (fb by_ L) k (L - k) = 0 then 0 else 1)
  | 0, _, _, h => absurd h (Nat.not_lt_zero _)
  | f + 1, k, hk, hf => by
    obtain ⟨h1, h2, h3, h4, h5, h6, h7, h8⟩ := h
    have unf : ∀ y, f_X9_readsAll_263 K A (nI q) (f + 1) m y (nI k) = f_X9_readsAll_263B K A (nI q) (f_X9_readsAll_263 K A (nI q) f) m y (nI k) := fun _ => rfl
    rw [unf]
    unfold f_X9_readsAll_263B f_X9_readsAll_293
    rw [h6]
    by_cases d : L ≤ k
    · rw [if_pos ((nI_leI (by omega) (by omega)).mpr d), show L - k = 0 by omega]
      rfl
    · rw [if_neg (fun z => d ((nI_leI (by omega) (by omega)).mp z)), if_pos rfl, bitAt_ok h1 h2 h3 h4 (by omega), bind_e, bd_e, bd_e, nI_1, ← fb_in (L := L) (by omega)]
      have hb := fb_lt by_ L k
      have e : num (fb by_ L) k (L - k) = fb by_ L k * 2 ^ (L - (k + 1)) + num (fb by_ L) (k + 1) (L - (k + 1)) := by
        rw [show L - k = 1 + (L - (k + 1)) by omega, num_add, num_one]
      have hpos := Nat.two_pow_pos (L - (k + 1))
      by_cases d1 : fb by_ L k = 0
      · rw [d1, if_neg (by decide), ra_263 ⟨h1, h2, h3, h4, h5, h6, h7, h8⟩ f (k + 1) (by omega) (by omega), e, d1, Nat.zero_mul, Nat.zero_add]
      · have d2 : fb by_ L k = 1 := by omega
        rw [d2, if_pos (show nI 1 = 1 from rfl), e, d2, if_neg (by omega)]
        cases f with
        | zero => omega
        | succ f =>
          have unf : ∀ y, f_X9_readsAll_263 K A (nI q) (f + 1) m y (nI (k + 1)) = f_X9_readsAll_263B K A (nI q) (f_X9_readsAll_263 K A (nI q) f) m y (nI (k + 1)) := fun _ => rfl
          rw [unf]
          unfold f_X9_readsAll_263B
          rw [if_neg (by decide : ¬ ((1 : Int32) = 0))]
          split <;> rfl
theorem rdRes_flt {m m' : Mem} {A q : Nat} {e : Nat × Int} (h1 : gI m' A 27 = nI e.1) (h2 : gI m' A 28 = iZ e.2) : rdRes m' A q (.inl e) := ⟨h1, h2⟩
theorem arM.on {W : Nat → Nat → Prop} {m m' : Mem} {A : Nat} {l : List PtR} (h : arM m A l) (e : fr W m m') (hw : ∀ a i, A + 14 ≤ a → a ≤ A + 18 → i < l.length → ¬ W a i) : arM m' A l := fun i x hx => by
  have hi : i < l.length := (List.getElem?_eq_some_iff.mp hx).1
  obtain ⟨g1, g2, g3⟩ := h i x hx
  refine ⟨(e.J (hw _ _ (by omega) (by omega) hi)).trans g1, (e.J (hw _ _ (by omega) (by omega) hi)).trans g2, fun z => ?_⟩
  obtain ⟨g4, g5, g6⟩ := g3 z
  exact ⟨(e.I (hw _ _ (by omega) (by omega) hi)).trans g4, (e.I (hw _ _ (by omega) (by omega) hi)).trans g5, (e.I (hw _ _ (by omega) (by omega) hi)).trans g6⟩
theorem ra_316 {K : Kn} {m : Mem} {A q : Nat} (h : MS K m A) (hq : q < 80) : f_X9_readsAll_316 K A (nI q) m = some (sI m (A + 6) q (gI m A 20)) := by
  unfold f_X9_readsAll_316
  rw [h.d5, bind_e, h.s5 hq, bind_e]
theorem ra_end {K : Kn} {m : Mem} {A q n L p : Nat} {by_ : Nat → Nat} {c : Cs} {l : List PtR} (h : rM K m A q n by_ L c) (hpL : p ≤ L) (h20 : gI m A 20 = nI p) (h26 : gI m A 26 = nI l.length) (h27 : gI m A 27 = 0) (h28 : gI m A 28 = iZ (-1)) (hl : arM m A l) : ∃ m', (if ((gI m A 29) - (gI m A 20)) ≤ (7 : Int32) then f_X9_readsAll_255 K A (nI q) m (0 : Int32) else f_X9_readsAll_255 K A (nI q) m (1 : Int32)) = some m' ∧ fr (WQ A q) m m' ∧ rdRes m' A q (exRest by_ L (.inr (p, c, l))) := by
  have h0 := h
  obtain ⟨h1, h2, h3, h4, h5, h6, h7, h8⟩ := h
  have bad : ∃ m', f_X9_readsAll_301 K A (nI q) m (1 : Int32) = some m' ∧ fr (WQ A q) m m' ∧ rdRes m' A q (.inl (6, (p : Int))) := by
    unfold f_X9_readsAll_301
    rw [if_neg (by decide)]
    obtain ⟨m1, e1, e2, e3, e4⟩ := faults_ok (K := K) (m := m) (A := A) (x := 6) (y := gI m A 20)
    rw [e1, bind_e, ra_316 (h1.on e4) h2]
    refine ⟨_, rfl, (e4.mono (fun a k z => Or.inl ⟨z.1, Or.inr (by omega)⟩)).trans (fr_sI (Or.inr (Or.inr ⟨rfl, rfl⟩))), ?_, ?_⟩
    · rw [gI_sI_n (Or.inl (by omega)), e2]; rfl
    · rw [gI_sI_n (Or.inl (by omega)), e3, h20, iZ_nat]
  rw [h6, h20, pk_sub hpL, show (7 : Int32) = nI 7 from rfl]
  unfold exRest
  dsimp only
  by_cases d : 7 < L - p
  · rw [if_neg (fun z => by have := (nI_leI (by omega) (by omega)).mp z; omega), if_pos (Or.inl d)]
    have : f_X9_readsAll_255 K A (nI q) m (1 : Int32) = f_X9_readsAll_301 K A (nI q) m (1 : Int32) := by
      unfold f_X9_readsAll_255
      rw [bd_e, h20, FU_e]
      have unf : ∀ y, f_X9_readsAll_263 K A (nI q) 1000000 m y (nI p) = f_X9_readsAll_263B K A (nI q) (f_X9_readsAll_263 K A (nI q) 999999) m y (nI p) := fun _ => rfl
      rw [unf]
      unfold f_X9_readsAll_263B
      rw [if_neg (by decide : ¬ ((1 : Int32) = 0))]
      split <;> rfl
    rw [this]
    exact bad
  · rw [if_pos ((nI_leI (by omega) (by omega)).mpr (by omega))]
    unfold f_X9_readsAll_255
    rw [bd_e, h20, ra_263 h0 FU p hpL (by rw [FU_e]; omega)]
    by_cases d2 : num (fb by_ L) p (L - p) = 0
    · rw [if_pos d2, if_neg (by omega)]
      unfold f_X9_readsAll_301
      rw [if_pos rfl, ra_316 h1 h2]
      refine ⟨_, rfl, fr_sI (Or.inr (Or.inr ⟨rfl, rfl⟩)), ?_⟩
      have f1 : fr (fun a k => a = A + 6) m (sI m (A + 6) q (gI m A 20)) := fr_sI rfl
      refine ⟨?_, ?_, ?_, h7.on f1 (fun k _ _ z => by omega), ?_, ?_, hl.on f1 (fun a i _ _ _ z => by omega)⟩
      · rw [gI_sI_n (Or.inl (by omega))]; exact h27
      · rw [gI_sI_n (Or.inl (by omega))]; exact h28
      · rw [gI_sI_n (Or.inl (by omega))]; exact h26
      · rw [gI_sI_n (Or.inl (by omega))]; exact h20
      · rw [gI_sI_s]; exact h20
    · rw [if_neg d2, if_pos (Or.inr d2)]
      exact bad
theorem rM.on {W : Nat → Nat → Prop} {K : Kn} {m m' : Mem} {A q n L : Nat} {by_ : Nat → Nat} {c c' : Cs} (h : rM K m A q n by_ L c) (e : fr W m m') (h4 : ∀ i, ¬ W (A + 4) i) (h29 : ¬ W A 29) (hc : csM m' A c') (hok : csOk c') : rM K m' A q n by_ L c' :=
  ⟨h.1.on e, h.2.1, h.2.2.1, h.2.2.2.1.on e (fun i _ => h4 _), h.2.2.2.2.1, (e.I h29).trans h.2.2.2.2.2.1, hc, hok⟩
theorem ra_192 {K : Kn} {A q n L many : Nat} {by_ : Nat → Nat} (hmany : many < 65536) (h0 : (hst by_) ≤ 2000000000) (hL : L ≤ 1488) : ∀ (f : Nat) (m : Mem) (j p : Nat) (c : Cs) (l : List PtR), j + 1 ≤ many → many - j < f → rM K m A q n by_ L c → rdN (fb by_ L) L (cs0 by_) j = .inr (p, c, l) → gI m A 20 = nI p → gI m A 26 = nI (j + 1) → gI m A 27 = 0 → gI m A 28 = iZ (-1) → arM m A l → ∃ m', f_X9_readsAll_192 K A (nI q) f m (nI many) = some m' ∧ fr (WQ A q) m m' ∧ rdRes m' A q (exRest by_ L (rdN (fb by_ L) L (cs0 by_) (many - 1)))
  | 0, _, _, _, _, _, _, h, _, _, _, _, _, _, _ => absurd h (Nat.not_lt_zero _)
  | f + 1, m, j, p, c, l, hj, hf, h, hrd, h20, h26, h27, h28, hl => by
    have unf : f_X9_readsAll_192 K A (nI q) (f + 1) m (nI many) = f_X9_readsAll_192B K A (nI q) (f_X9_readsAll_192 K A (nI q) f) m (nI many) := rfl
    rw [unf]
    unfold f_X9_readsAll_192B
    have hcok := cs0_ok h0
    obtain ⟨k1, k2, k3, k4⟩ := rdN_facts hcok j hrd
    have hpL : p ≤ L := by
      rcases rdN_bound (c0 := cs0 by_) rfl j hrd with ⟨-, hp, -⟩ | ⟨-, -, hp⟩ <;> omega
    have hj7 : j ≤ 745 := by
      rcases rdN_bound (c0 := cs0 by_) rfl j hrd with ⟨hp, -, -⟩ | ⟨-, hp, -⟩ <;> omega
    rw [h26]
    by_cases d : many ≤ j + 1
    · rw [if_pos ((nI_leI (by omega) (by omega)).mpr d), show many - 1 = j by omega, hrd]
      exact ra_end h hpL h20 (by rw [k2]; exact h26) h27 h28 hl
    rw [if_neg (fun z => d ((nI_leI (by omega) (by omega)).mp z)), bd_e]
    obtain ⟨m1, e1, e2, e3⟩ := readsOne_ok h (by omega) h20 h26 (by omega)
    rw [e1, bind_e, bd_e]
    have hflt := rdP_flt (fb by_ L) L c p
    have hnext : rdN (fb by_ L) L (cs0 by_) (j + 1) = if (rdP (fb by_ L) L c p).1 = 0 then .inr ((rdP (fb by_ L) L c p).2.1, (rdP (fb by_ L) L c p).2.2.1, l ++ [((rdP (fb by_ L) L c p).2.2.1.1, (rdP (fb by_ L) L c p).2.2.1.2.2.1, (rdP (fb by_ L) L c p).2.1 - p, (rdP (fb by_ L) L c p).2.2.2.1, (rdP (fb by_ L) L c p).2.2.2.2)]) else .inl ((rdP (fb by_ L) L c p).1, p) := by
      conv => lhs; unfold rdN
      rw [hrd]
    dsimp only
    by_cases d1 : (rdP (fb by_ L) L c p).1 = 0
    · rw [if_pos d1] at hnext
      obtain ⟨c1, c2, c3, c4⟩ := e3 d1
      have hokP := rdP_ok k1 d1
      have hcost := (rdP_cost (f := fb by_ L) (L := L) (c := c) (p := p) d1).1
      rw [d1, if_pos (by decide)]
      have g26 : gI m1 A 26 = nI (j + 1) := (e2.I (fun z => by unfold WR at z; omega)).trans h26
      obtain ⟨m2, q1, q2, q3, q4, q5, q6⟩ := keepsOne_ok (K := K) (A := A) (r := j + 1) (x := gI m A 20) (h.1.on e2) g26 (by omega)
      rw [q1, bind_e]
      have hr1 := h.on (c' := (rdP (fb by_ L) L c p).2.2.1) e2 (fun i z => by unfold WR at z; omega) (fun z => by unfold WR at z; omega) c1 hokP.1
      have hr2 := hr1.on (c' := (rdP (fb by_ L) L c p).2.2.1) q6 (fun i z => by unfold WK at z; omega) (fun z => by unfold WK at z; omega) (c1.on q6 (fun k _ _ z => by unfold WK at z; omega)) hokP.1
      have hl2 : arM m2 A (l ++ [((rdP (fb by_ L) L c p).2.2.1.1, (rdP (fb by_ L) L c p).2.2.1.2.2.1, (rdP (fb by_ L) L c p).2.1 - p, (rdP (fb by_ L) L c p).2.2.2.1, (rdP (fb by_ L) L c p).2.2.2.2)]) := by
        intro i x hx
        by_cases hi : i < l.length
        · rw [List.getElem?_append_left hi] at hx
          exact ((hl.on e2 (fun a i _ _ hi z => by unfold WR at z; omega)).on q6 (fun a i _ _ hi z => by unfold WK at z; omega)) i x hx
        · have hi' : i = l.length := by
            have := (List.getElem?_eq_some_iff.mp hx).1
            rw [List.length_append] at this
            simp at this; omega
          rw [hi', List.getElem?_append_right (Nat.le_refl _), Nat.sub_self] at hx
          cases hx
          rw [hi', k2]
          refine ⟨q2.trans c1.1, q3.trans c1.2.2.1, fun _ => ⟨?_, ?_, ?_⟩⟩
          · rw [q4, c2, h20, pk_sub (by omega)]
          · rw [q6.I (fun z => by unfold WK at z; omega)]; exact c3
          · rw [q6.I (fun z => by unfold WK at z; omega)]; exact c4
      obtain ⟨m3, r1, r2, r3⟩ := ra_192 hmany h0 hL f m2 (j + 1) _ _ _ (by omega) (by omega) hr2 hnext ((q6.I (fun z => by unfold WK at z; omega)).trans c2) q5 ((q6.I (fun z => by unfold WK at z; omega)).trans ((e2.I (fun z => by unfold WR at z; omega)).trans h27)) ((q6.I (fun z => by unfold WK at z; omega)).trans ((e2.I (fun z => by unfold WR at z; omega)).trans h28)) hl2
      exact ⟨m3, r1, ((e2.mono (fun a k z => WR_WQ z)).trans (q6.mono (fun a k z => WK_WQ z))).trans r2, r3⟩
    · rw [if_neg d1] at hnext
      rw [if_neg (fun z => by have := (nI_leI (b := 0) (by omega) (by omega)).mp z; omega)]
      obtain ⟨m2, q1, q2, q3, q4⟩ := faults_ok (K := K) (m := m1) (A := A) (x := nI (rdP (fb by_ L) L c p).1) (y := gI m A 20)
      rw [q1, bind_e]
      have := rdN_inl hnext (many - 1 - (j + 1))
      rw [show j + 1 + (many - 1 - (j + 1)) = many - 1 by omega] at this
      rw [this]
      exact ⟨m2, rfl, (e2.mono (fun a k z => WR_WQ z)).trans (q4.mono (fun a k z => Or.inl ⟨z.1, by omega⟩)), q2, by rw [q3, h20]; exact (iZ_nat p).symm⟩
