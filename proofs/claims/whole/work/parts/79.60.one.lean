/-! ===== the law answers one ===== -/
theorem RX.kinds {K K' : Kn} {m : Mem} {B : Nat} {s : St} (h : RX K m B s) (hk : ∀ q, B ≤ q → q < B + 205 → K' q = K q) (hs : ∀ j, s.1 j = none) : RX K' m B s := by
  obtain ⟨⟨k1, k2, k3, k4, k5, k6, k7, k8⟩, h2, ⟨⟨s1, s2, s3⟩, ⟨p1, p2, p3, p4, p5, p6⟩, ⟨t1, t2, t3, t4, t5, t6⟩, s4⟩, h4, sa, ⟨a1, a2, a3, a4⟩, h5, π, h6⟩ := h
  have up : ∀ q c, q < 205 → K (B + q) = c → K' (B + q) = c := fun q c hq hc => (hk _ (by omega) (by omega)).trans hc
  have uS : ∀ j π, j < 5 → seS K m (sa j) π → seS K' m (sa j) π := fun j π hj hs => by
    obtain ⟨i, hi, e⟩ := a1 j hj
    exact hs.up (p := fun _ => True) (eqOn.refl m) (fun _ _ _ => trivial) (fun q h1 h2 => hk q (by omega) (by omega))
  refine ⟨⟨up 0 _ (by omega) k1, up 1 _ (by omega) k2, fun i hi => ?_, up 198 _ (by omega) k4, up 201 _ (by omega) k5, up 202 _ (by omega) k6, up 203 _ (by omega) k7, up 204 _ (by omega) k8⟩, h2, ⟨⟨s1, up 199 _ (by omega) s2, up 200 _ (by omega) s3⟩, ⟨p1, p2, up 192 _ (by omega) p3, up 193 _ (by omega) p4, up 194 _ (by omega) p5, p6⟩, ⟨t1, t2, up 195 _ (by omega) t3, up 196 _ (by omega) t4, up 197 _ (by omega) t5, t6⟩, s4⟩, h4, sa, ⟨a1, a2, a3, a4⟩, fun j hj => ?_, π, uS 4 π (by omega) h6⟩
  · obtain ⟨c1, c2, c3, c4, c5, c6, c7⟩ := k3 i hi
    have hk' : ∀ q, B + 2 + 38 * i ≤ q → q < B + 2 + 38 * i + 38 → K' q = K q := fun q h1 h2 => hk q (by omega) (by omega)
    exact ⟨(hk' _ (by omega) (by omega)).trans c1, (hk' _ (by omega) (by omega)).trans c2, (hk' _ (by omega) (by omega)).trans c3, (hk' _ (by omega) (by omega)).trans c4, (hk' _ (by omega) (by omega)).trans c5, (hk' _ (by omega) (by omega)).trans c6, fun j hj => ⟨(hk' _ (by omega) (by omega)).trans (c7 j hj).1, (hk' _ (by omega) (by omega)).trans (c7 j hj).2⟩⟩
  · have := h5 j hj
    rw [hs j] at this ⊢
    obtain ⟨⟨π, q1⟩, q2⟩ := this
    exact ⟨⟨π, uS j π (by omega) q1⟩, q2⟩
theorem law_one (sL : Nat) (sx : Nat → Int32) (n : Nat) (hL : sL ≤ 3072) : f_L_law (fun _ => none) sL sx (n, fun _ _ => 0, fun _ _ => 0, fun _ _ => none) = some 1 := by
  have f0 : frh (fun _ => none) ((n, fun _ _ => 0, fun _ _ => 0, fun _ _ => none) : Mem) n := ⟨rfl, fun _ _ => rfl⟩
  generalize ((n, fun _ _ => 0, fun _ _ => 0, fun _ _ => none) : Mem) = m0 at f0
  generalize (fun _ => none : Kn) = K0 at f0
  unfold f_L_law
  obtain ⟨f1, k1, g1, z1⟩ := f0.new (.inl 7)
  obtain ⟨K2, m2, e2, f2, R2⟩ := press_new f1 k1 (fun _ => 0)
  obtain ⟨f3, k3, g3, z3⟩ := f2.new (.inl 8)
  obtain ⟨K4, m4, e4, f4, g4, R4⟩ := model_new f3 z3 (by omega) (fun _ => 0)
  simp only [bd_e]
  rw [f0.1, e2, bind_e]
  dsimp only
  rw [f2.1, e4, bind_e]
  dsimp only
  have hok : stOk ((fun _ => none, fun _ => 0, 0) : St) := ⟨(fun j S h => by cases h), Nat.zero_le _, fun i hi => absurd hi (Nat.not_lt_zero i)⟩
  have v2 := f2.1
  have v3 := f3.1
  have G : gwf (n + 205) 0 (upK K2 (n + 205) (.inl 8)) (bump m2) K4 m4 := g4
  have G3 : gwf n 0 K2 m2 (upK K2 (n + 205) (.inl 8)) (bump m2) := g3 n 0 (by omega)
  have e : eqOn (fun q => n ≤ q ∧ q < n + 205) m2 m4 := by
    have a1 : eqOn (fun q => q < n + 205 ∧ q ≠ n) m2 (bump m2) := G3.2.2.1.mono (fun q hq => ⟨by omega, hq.2⟩)
    have b1 : eqOn (fun q => q < n + 205 ∧ q ≠ n + 1) m2 (bump m2) := (g3 (n + 1) 0 (by omega)).2.2.1.mono (fun q hq => ⟨by omega, hq.2⟩)
    have a2 : eqOn (fun q => q < n + 205) m2 (bump m2) := fun q hq k => by
      by_cases c : q = n
      · exact b1 q ⟨hq, by omega⟩ k
      · exact a1 q ⟨hq, c⟩ k
    exact (a2.mono (fun q hq => hq.2)).trans (G.2.2.1.mono (fun q hq => ⟨by omega, by omega⟩))
  have hk : ∀ q, n ≤ q → q < n + 205 → K4 q = K2 q := fun q h1 h2 => (G.2.1 q (by omega)).trans (G3.2.1 q (by omega))
  have hR : RX K4 m4 n ((fun _ => none, fun _ => 0, 0) : St) := (R2.on hok e (fun q h1 h2 => ⟨h1, h2⟩)).kinds hk (fun _ => rfl)
  have key : ∀ f, sL + 6 ≤ 0 + 6 * f → f_L_law_18 K4 sL sx f m4 n (n + 205) (nI 0) = some 1 := fun f hf => law_18 hL f 0 m4 (fun _ => none, fun _ => 0, 0) ⟨hok, hR, R4, by have := f4.1; omega, f4.2⟩ (Nat.zero_le _) hf
  have z0 : nI 0 = (0 : Int32) := rfl
  rw [z0] at key
  exact key 513 (by omega)
