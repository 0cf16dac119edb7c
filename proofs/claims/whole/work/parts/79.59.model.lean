/-! ===== the reference made anew ===== -/
def kdM (i : Nat) : Kd := match i with
  | 0 => .inr (0, 5)
  | 1 => .inr (0, 5)
  | 2 => .inr (0, 5)
  | 3 => .inr (0, 16000)
  | 4 => .inr (0, 80)
  | 5 => .inr (0, 80)
  | 6 => .inr (2, 80)
  | 7 => .inr (0, 80)
  | 8 => .inr (0, 80)
  | 9 => .inr (0, 5)
  | 10 => .inr (0, 100)
  | 11 => .inr (1, 100)
  | 12 => .inr (0, 200)
  | 13 => .inr (1, 800)
  | 14 => .inr (1, 800)
  | 15 => .inr (0, 800)
  | 16 => .inr (0, 800)
  | 17 => .inr (0, 800)
  | 18 => .inr (1, 12040)
  | 19 => .inr (1, 12040)
  | 20 => .inr (0, 12040)
  | 21 => .inr (1, 12040)
  | 22 => .inr (1, 12040)
  | _ => .inr (0, 0)
def fdM (i : Nat) : Nat := if i < 13 then i else if i < 18 then i + 8 else if i < 21 then i + 12 else i + 17
theorem fdM_lt {i j : Nat} (h : i < j) : fdM i < fdM j := by
  unfold fdM
  split <;> split <;> (try split) <;> (try split) <;> (try split) <;> (try split) <;> omega
def mdL (A i : Nat) (K0 : Kn) (m0 : Mem) (K : Kn) (m : Mem) : Prop := frh K m (A + 1 + i) ∧ gwf A 0 K0 m0 K m ∧ (∀ j, j < i → K (A + 1 + j) = some (kdM j) ∧ gR m A (fdM j) = some (A + 1 + j)) ∧ ∀ q k, A ≤ q → q < A + 1 + i → gI m q k = 0
theorem pos_md {A i : Nat} {K0 K : Kn} {m0 m : Mem} (h : mdL A i K0 m0 K m) (hA : 0 < A) {k : Kd} {f : Nat} (hk : kdM i = k) (hf : fdM i = f) {cont : Kn → Mem → Option (Kn × Mem)} {Q : Kn → Mem → Prop} (hc : ∀ K' m', mdL A (i + 1) K0 m0 K' m' → pos (cont K' m') Q) : pos (bd (szm m) fun b1 => bd (upK K b1 k) fun K2 => bd (bump m) fun m3 => bd (sR m3 A f (some b1)) fun m5 => cont K2 m5) Q := by
  obtain ⟨f0, w0, h1, h2⟩ := h
  have v0 := f0.1
  refine pos_nw f0 (fun K1 m1 f1 k1 g1 z1 => ?_)
  have v1 := f1.1
  obtain ⟨f2, g2, r2⟩ := f1.ref A f (A + 1 + i)
  refine hc K1 _ ⟨f2, (w0.trans (g1 A 0 (by omega)) (by omega)).trans g2 (by omega), fun j hj => ?_, fun q k' h3 h4 => ?_⟩
  · by_cases c : j = i
    · subst c
      exact ⟨k1.trans (by rw [hk]), by rw [hf]; exact r2⟩
    · have hj' : j < i := by omega
      have := fdM_lt hj'
      refine ⟨((g1 A 0 (by omega)).2.1 _ (by omega)).trans (h1 j hj').1, ?_⟩
      rw [g2.2.2.2.1 (fdM j) (by omega), (g1 A (fdM j + 1) (by omega)).2.2.2.1 (fdM j) (by omega)]
      exact (h1 j hj').2
  · show gI m1 q k' = 0
    by_cases c : q = A + 1 + i
    · rw [c]; exact z1 k'
    · by_cases c' : q = A
      · rw [c', (g1 0 0 (by omega)).2.2.1.I ⟨by omega, by omega⟩]
        exact h2 A k' (by omega) (by omega)
      · rw [(g1 A 0 (by omega)).I (by omega) c']
        exact h2 q k' h3 (by omega)
theorem model_new {K : Kn} {m : Mem} {A : Nat} (h : frh K m (A + 1)) (hz : ∀ k, gI m A k = 0) (hA : 0 < A) (t : Nat → Nat) : pos (F_X9_init K m A) (fun K' m' => frh K' m' (A + 24) ∧ gwf A 0 K m K' m' ∧ RM K' m' A (fun _ => none, t, 0)) := by
  unfold F_X9_init f_X9_init
  have h0 : mdL A 0 K m K m := ⟨h, gwf.refl, fun j hj => absurd hj (by omega), fun q k h1 h2 => by rw [show q = A by omega]; exact hz k⟩
  refine pos_md h0 hA (show kdM 0 = _ from rfl) (show fdM 0 = _ from rfl) (fun K1 m1 h1 => ?_)
  refine pos_md h1 hA (show kdM 1 = _ from rfl) (show fdM 1 = _ from rfl) (fun K2 m2 h2 => ?_)
  refine pos_md h2 hA (show kdM 2 = _ from rfl) (show fdM 2 = _ from rfl) (fun K3 m3 h3 => ?_)
  refine pos_md h3 hA (show kdM 3 = _ from rfl) (show fdM 3 = _ from rfl) (fun K4 m4 h4 => ?_)
  refine pos_md h4 hA (show kdM 4 = _ from rfl) (show fdM 4 = _ from rfl) (fun K5 m5 h5 => ?_)
  refine pos_md h5 hA (show kdM 5 = _ from rfl) (show fdM 5 = _ from rfl) (fun K6 m6 h6 => ?_)
  refine pos_md h6 hA (show kdM 6 = _ from rfl) (show fdM 6 = _ from rfl) (fun K7 m7 h7 => ?_)
  refine pos_md h7 hA (show kdM 7 = _ from rfl) (show fdM 7 = _ from rfl) (fun K8 m8 h8 => ?_)
  refine pos_md h8 hA (show kdM 8 = _ from rfl) (show fdM 8 = _ from rfl) (fun K9 m9 h9 => ?_)
  refine pos_md h9 hA (show kdM 9 = _ from rfl) (show fdM 9 = _ from rfl) (fun K10 m10 h10 => ?_)
  refine pos_md h10 hA (show kdM 10 = _ from rfl) (show fdM 10 = _ from rfl) (fun K11 m11 h11 => ?_)
  refine pos_md h11 hA (show kdM 11 = _ from rfl) (show fdM 11 = _ from rfl) (fun K12 m12 h12 => ?_)
  refine pos_md h12 hA (show kdM 12 = _ from rfl) (show fdM 12 = _ from rfl) (fun K13 m13 h13 => ?_)
  refine pos_md h13 hA (show kdM 13 = _ from rfl) (show fdM 13 = _ from rfl) (fun K14 m14 h14 => ?_)
  refine pos_md h14 hA (show kdM 14 = _ from rfl) (show fdM 14 = _ from rfl) (fun K15 m15 h15 => ?_)
  refine pos_md h15 hA (show kdM 15 = _ from rfl) (show fdM 15 = _ from rfl) (fun K16 m16 h16 => ?_)
  refine pos_md h16 hA (show kdM 16 = _ from rfl) (show fdM 16 = _ from rfl) (fun K17 m17 h17 => ?_)
  refine pos_md h17 hA (show kdM 17 = _ from rfl) (show fdM 17 = _ from rfl) (fun K18 m18 h18 => ?_)
  refine pos_md h18 hA (show kdM 18 = _ from rfl) (show fdM 18 = _ from rfl) (fun K19 m19 h19 => ?_)
  refine pos_md h19 hA (show kdM 19 = _ from rfl) (show fdM 19 = _ from rfl) (fun K20 m20 h20 => ?_)
  refine pos_md h20 hA (show kdM 20 = _ from rfl) (show fdM 20 = _ from rfl) (fun K21 m21 h21 => ?_)
  refine pos_md h21 hA (show kdM 21 = _ from rfl) (show fdM 21 = _ from rfl) (fun K22 m22 h22 => ?_)
  refine pos_md h22 hA (show kdM 22 = _ from rfl) (show fdM 22 = _ from rfl) (fun K23 m23 h23 => ?_)
  obtain ⟨f0, w0, h1, h2⟩ := h23
  refine pos_some ⟨f0, w0, ⟨?_, ?_, ?_, ?_, ?_⟩, fun j hj => ?_, ?_, fun i hi => absurd hi (Nat.not_lt_zero i), fun q hq => Or.inl ?_⟩
  · exact ⟨(h1 0 (by omega)).1, (h1 1 (by omega)).1, (h1 2 (by omega)).1, (h1 3 (by omega)).1, (h1 4 (by omega)).1, (h1 5 (by omega)).1, (h1 6 (by omega)).1, (h1 7 (by omega)).1, (h1 8 (by omega)).1, (h1 9 (by omega)).1, (h1 10 (by omega)).1, (h1 11 (by omega)).1, (h1 12 (by omega)).1, (h1 13 (by omega)).1, (h1 14 (by omega)).1, (h1 15 (by omega)).1, (h1 16 (by omega)).1, (h1 17 (by omega)).1, (h1 18 (by omega)).1, (h1 19 (by omega)).1, (h1 20 (by omega)).1, (h1 21 (by omega)).1, (h1 22 (by omega)).1⟩
  · intro k hk
    have := (h1 k (by omega)).2
    rw [show fdM k = k by unfold fdM; rw [if_pos hk]] at this
    exact this
  · intro k hk
    have := (h1 (13 + k) (by omega)).2
    rw [show fdM (13 + k) = 21 + k by unfold fdM; rw [if_neg (by omega), if_pos (by omega)]; omega] at this
    rw [this]; congr 1; omega
  · intro k hk
    have := (h1 (18 + k) (by omega)).2
    rw [show fdM (18 + k) = 30 + k by unfold fdM; rw [if_neg (by omega), if_neg (by omega), if_pos (by omega)]; omega] at this
    rw [this]; congr 1; omega
  · intro k hk
    have := (h1 (21 + k) (by omega)).2
    rw [show fdM (21 + k) = 38 + k by unfold fdM; rw [if_neg (by omega), if_neg (by omega), if_neg (by omega)]; omega] at this
    rw [this]; congr 1; omega
  · exact h2 (A + 1) j (by omega) (by omega)
  · exact h2 A 13 (by omega) (by omega)
  · exact h2 (A + 7) q (by omega) (by omega)
