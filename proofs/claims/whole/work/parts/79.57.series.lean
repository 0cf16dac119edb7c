/-! ===== a series made anew ===== -/
/-- a block more in the row of blocks -/
def bsL (a : Nat) (K0 : Kn) (m0 : Mem) (j : Nat) (K : Kn) (m : Mem) : Prop := frh K m (a + 6 + 2 * j) ∧ gwf a 0 K0 m0 K m ∧ (K (a + 1) = some (.inr (4, 16)) ∧ K (a + 2) = some (.inl 4) ∧ K (a + 3) = some (.inr (0, 20)) ∧ K (a + 4) = some (.inr (1, 20)) ∧ K (a + 5) = some (.inl 1)) ∧ (gR m a 0 = some (a + 1) ∧ gR m a 1 = some (a + 2) ∧ gR m a 2 = some (a + 5) ∧ gR m (a + 2) 0 = some (a + 3) ∧ gR m (a + 2) 1 = some (a + 4)) ∧ ∀ i, i < j → K (a + 6 + 2 * i) = some (.inl 0) ∧ K (a + 6 + 2 * i + 1) = some (.inr (0, 200)) ∧ gR m (a + 1) i = some (a + 6 + 2 * i) ∧ gR m (a + 6 + 2 * i) 0 = some (a + 6 + 2 * i + 1)
theorem pos_bs {a j : Nat} {K0 K : Kn} {m0 m : Mem} (h : bsL a K0 m0 j K m) (h0 : szm m0 = a + 1) (hj : j < 16) {x : Int32} (hx : x = nI j) {cont : Kn × Mem → Mem → Option (Kn × Mem)} {Q : Kn → Mem → Prop} (hc : ∀ q m', bsL a K0 m0 (j + 1) q.1 m' → pos (cont q m') Q) : pos ((ldA K m a 0 4).bind fun b21 => bd (szm m) fun b22 => bd (upK K b22 (.inl 0)) fun K23 => bd (bump m) fun m24 => (F_X0_init K23 m24 b22).bind fun q27 => (asO q27.1 q27.2 b21 x b22).bind fun m31 => cont q27 m31) Q := by
  obtain ⟨f0, w0, ⟨k1, k2, k3, k4, k5⟩, ⟨r1, r2, r3, r4, r5⟩, hb⟩ := h
  refine pos_bind (ldA_n r1 k1) ?_
  refine pos_nw f0 (fun K1 m1 f1 q1 g1 z1 => ?_)
  obtain ⟨K2, m2, e2, f2, g2, q2, s2⟩ := block_new f1 (a := a + 6 + 2 * j) (by omega)
  refine pos_bind e2 ?_
  dsimp only
  have e0 := f0.1
  have e1 := f1.1
  have g12 : ∀ B f, B < a + 6 + 2 * j → gwf B f K m K2 m2 := fun B f hB => (g1 B f hB).sub g2 (by omega) (by omega)
  have gk : ∀ q, q < a + 6 + 2 * j → K2 q = K q := fun q hq => (g12 0 0 (by omega)).2.1 q (by omega)
  have gr : ∀ q k, q < a + 6 + 2 * j → gR m2 q k = gR m q k := fun q k hq => (g12 q (k + 1) hq).2.2.2.1 k (by omega)
  have hl : lenK K2 (a + 1) = 16 := lenK_of ((gk _ (by omega)).trans k1)
  have ea : asO K2 m2 (a + 1) x (a + 6 + 2 * j) = some (sR m2 (a + 1) j (some (a + 6 + 2 * j))) := by
    rw [hx]; exact asO_n hl hj (by omega)
  refine pos_bind ea (hc (K2, m2) _ ?_)
  obtain ⟨f3, g3, r3'⟩ := f2.ref (a + 1) j (a + 6 + 2 * j)
  have e3 := f2.1
  have h3 : ∀ q k, q < a + 6 + 2 * j + 2 → q ≠ a + 1 → gR (sR m2 (a + 1) j (some (a + 6 + 2 * j))) q k = gR m2 q k := fun q k h1 h2 => g3.R (by omega) h2
  refine ⟨f3, (w0.trans (g12 a 0 (by omega)) (Nat.le_refl _)).sub g3 (by omega) (by omega), ⟨(gk _ (by omega)).trans k1, (gk _ (by omega)).trans k2, (gk _ (by omega)).trans k3, (gk _ (by omega)).trans k4, (gk _ (by omega)).trans k5⟩, ⟨?_, ?_, ?_, ?_, ?_⟩, fun i hi => ?_⟩
  · rw [h3 _ _ (by omega) (by omega), gr _ _ (by omega), r1]
  · rw [h3 _ _ (by omega) (by omega), gr _ _ (by omega), r2]
  · rw [h3 _ _ (by omega) (by omega), gr _ _ (by omega), r3]
  · rw [h3 _ _ (by omega) (by omega), gr _ _ (by omega), r4]
  · rw [h3 _ _ (by omega) (by omega), gr _ _ (by omega), r5]
  · by_cases c : i = j
    · subst c
      exact ⟨(g2.2.1 _ (by omega)).trans q1, q2, r3', (h3 _ _ (by omega) (by omega)).trans s2⟩
    · obtain ⟨b1, b2, b3, b4⟩ := hb i (by omega)
      refine ⟨(gk _ (by omega)).trans b1, (gk _ (by omega)).trans b2, ?_, ?_⟩
      · exact ((g3.2.2.2.1 i (by omega)).trans (gr _ _ (by omega))).trans b3
      · rw [h3 _ _ (by omega) (by omega), gr _ _ (by omega), b4]
theorem series_new {K : Kn} {m : Mem} {a : Nat} (h : frh K m (a + 1)) (hk : K a = some (.inl 6)) : pos (F_X7_init K m a) (fun K' m' => frh K' m' (a + 38) ∧ gwf a 0 K m K' m' ∧ seS K' m' a (fun k => k)) := by
  unfold F_X7_init f_X7_init
  have e0 := h.1
  refine pos_nw h (fun K1 m1 h1 k1 g1 z1 => ?_)
  refine pos_sr h1 (fun m2 h2 g2 r2 => ?_)
  refine pos_nw h2 (fun K3 m3 h3 k3 g3 z3 => ?_)
  obtain ⟨K4, m4, e4, h4, g4, k4, k4', r4, r4'⟩ := points_new20 h3 (a := a + 2) (by omega)
  refine pos_bind e4 ?_
  dsimp only
  refine pos_sr h4 (fun m5 h5 g5 r5 => ?_)
  refine pos_nw h5 (fun K6 m6 h6 k6 g6 z6 => ?_)
  obtain ⟨m7, e7, h7, g7⟩ := coder_new (a := a + 5) h6
  refine pos_bind e7 ?_
  refine pos_sr h7 (fun m8 h8 g8 r8 => ?_)
  have e2 := h2.1
  have e3 := h3.1
  have e5 := h5.1
  have e6 := h6.1
  have e4' := h4.1
  have e1 := h1.1
  obtain ⟨h9, g9⟩ := h8.int a 3 5 (Or.inr (Or.inl rfl)) (-1)
  have w2 : gwf a 0 K m K1 m2 := (g1 a 0 (by omega)).trans g2 (Nat.le_refl _)
  have w5 : gwf a 1 K1 m2 K4 m5 := ((g3 a 1 (by omega)).sub g4 (by omega) (by omega)).trans g5 (Nat.le_refl _)
  have w9 : gwf a 2 K4 m5 K6 (sI m8 a 5 (-1)) := (((g6 a 2 (by omega)).sub g7 (by omega) (by omega)).trans g8 (Nat.le_refl _)).trans g9 (by omega)
  have w59 := w5.trans w9 (by omega)
  have g59 := (g5.trans w9 (by omega))
  have hL : bsL a K m 0 K6 (sI m8 a 5 (-1)) := by
    refine ⟨h9, w2.trans w59 (by omega), ⟨?_, ?_, ?_, ?_, ?_⟩, ⟨?_, ?_, ?_, ?_, ?_⟩, fun i hi => absurd hi (by omega)⟩
    · exact (w59.2.1 _ (by omega)).trans k1
    · exact (w9.2.1 _ (by omega)).trans ((g4.2.1 _ (by omega)).trans k3)
    · exact (w9.2.1 _ (by omega)).trans k4
    · exact (w9.2.1 _ (by omega)).trans k4'
    · exact k6
    · exact (w59.2.2.2.1 0 (by omega)).trans r2
    · exact (w9.2.2.2.1 1 (by omega)).trans r5
    · exact (g9.2.2.2.1 2 (by omega)).trans r8
    · exact (g59.R (by omega) (by omega)).trans r4
    · exact (g59.R (by omega) (by omega)).trans r4'
  generalize sI m8 a 5 (-1) = m9 at hL
  show pos ((ldA K6 m9 a 0 4).bind _) _
  refine pos_bs hL e0 (by omega) (show (0 : Int32) = nI 0 from rfl) (fun q0 n0 hL0 => ?_)
  refine pos_bs hL0 e0 (by omega) (show (1 : Int32) = nI 1 from rfl) (fun q1 n1 hL1 => ?_)
  refine pos_bs hL1 e0 (by omega) (show (2 : Int32) = nI 2 from rfl) (fun q2 n2 hL2 => ?_)
  refine pos_bs hL2 e0 (by omega) (show (3 : Int32) = nI 3 from rfl) (fun q3 n3 hL3 => ?_)
  refine pos_bs hL3 e0 (by omega) (show (4 : Int32) = nI 4 from rfl) (fun q4 n4 hL4 => ?_)
  refine pos_bs hL4 e0 (by omega) (show (5 : Int32) = nI 5 from rfl) (fun q5 n5 hL5 => ?_)
  refine pos_bs hL5 e0 (by omega) (show (6 : Int32) = nI 6 from rfl) (fun q6 n6 hL6 => ?_)
  refine pos_bs hL6 e0 (by omega) (show (7 : Int32) = nI 7 from rfl) (fun q7 n7 hL7 => ?_)
  refine pos_bs hL7 e0 (by omega) (show (8 : Int32) = nI 8 from rfl) (fun q8 n8 hL8 => ?_)
  refine pos_bs hL8 e0 (by omega) (show (9 : Int32) = nI 9 from rfl) (fun q9 n9 hL9 => ?_)
  refine pos_bs hL9 e0 (by omega) (show (10 : Int32) = nI 10 from rfl) (fun q10 n10 hL10 => ?_)
  refine pos_bs hL10 e0 (by omega) (show (11 : Int32) = nI 11 from rfl) (fun q11 n11 hL11 => ?_)
  refine pos_bs hL11 e0 (by omega) (show (12 : Int32) = nI 12 from rfl) (fun q12 n12 hL12 => ?_)
  refine pos_bs hL12 e0 (by omega) (show (13 : Int32) = nI 13 from rfl) (fun q13 n13 hL13 => ?_)
  refine pos_bs hL13 e0 (by omega) (show (14 : Int32) = nI 14 from rfl) (fun q14 n14 hL14 => ?_)
  refine pos_bs hL14 e0 (by omega) (show (15 : Int32) = nI 15 from rfl) (fun q15 n15 hL15 => ?_)
  obtain ⟨f0, w0, ⟨c1, c2, c3, c4, c5⟩, ⟨d1, d2, d3, d4, d5⟩, hb⟩ := hL15
  exact pos_some ⟨f0, w0, ⟨(w0.2.1 a (by omega)).trans hk, c1, c2, c3, c4, c5, fun j hj => ⟨(hb j hj).1, (hb j hj).2.1⟩⟩, d1, d2, d3, d4, d5, fun k hk => ⟨hk, (hb k hk).2.2.1⟩, fun _ _ _ _ z => z, fun j hj => (hb j hj).2.2.2⟩
