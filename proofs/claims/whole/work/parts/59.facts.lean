/-! ===== what is known of a block that is sound ===== -/
theorem num_zero_inv {f : Nat → Nat} {p : Nat} : ∀ n, num f p n = 0 → ∀ j, j < n → f (p + j) = 0
  | 0, _, _, h => absurd h (Nat.not_lt_zero _)
  | n + 1, h, j, hj => by
    rw [num] at h
    by_cases c : j = n
    · subst c; omega
    · exact num_zero_inv n (by omega) j (by omega)
theorem opn_hb {by_ : Nat → Nat} {size p : Nat} {c : Cs} {l : List PtR} (h : opn by_ size p c l) (hb : ∀ i, i < size → by_ i < 256) (i : Nat) (hi : i < (p + 7) / 8) : by_ (14 + i) = num (cutf (fb by_ p) p) (8 * i) 8 := by
  obtain ⟨h1, h2, h3, -⟩ := h
  rw [← num_ab8 (hb (14 + i) (by omega)), show 8 * (14 + i) = 112 + 8 * i by omega, ← num_shift]
  refine num_congr (fun q g1 g2 => ?_)
  unfold cutf
  by_cases c : q < p
  · rw [if_pos c, fb_in c]
  · rw [if_neg c]
    have := num_zero_inv _ h3 (q - p) (by omega)
    rw [show 112 + p + (q - p) = 112 + q by omega] at this
    exact this
theorem rdP_cost {f : Nat → Nat} {L : Nat} {c : Cs} {p : Nat} (h : (rdP f L c p).1 = 0) : p + 2 ≤ (rdP f L c p).2.1 ∧ (c.2.1 = 0 → p + 10 ≤ (rdP f L c p).2.1) := by
  obtain ⟨e, -⟩ := rdP_fault f L c p h
  have hend := rdV_end f c.2.2.2 (p + kwid (kindR f p) + cwid (kindR f p))
  have hk := kindR_le f p
  have hkw : 1 ≤ kwid (kindR f p) ∧ (kindR f p = 0 ∨ 9 ≤ kwid (kindR f p) + cwid (kindR f p)) := by
    rcases (show kindR f p = 0 ∨ kindR f p = 1 ∨ kindR f p = 2 ∨ kindR f p = 3 ∨ kindR f p = 4 by omega) with h | h | h | h | h <;> rw [h] <;> decide
  refine ⟨by omega, fun h0 => ?_⟩
  rcases hkw.2 with hz | hz
  · exfalso
    have h' := h
    unfold rdP at h'
    dsimp only at h'
    split at h'
    · simp at h'
    split at h'
    · simp at h'
    · rename_i c1 c2
      rw [hz] at c2
      simp [sgnA] at c2
      omega
  · omega
theorem rdN_bound {f : Nat → Nat} {L : Nat} {c0 : Cs} (h0 : c0.2.1 = 0) : ∀ (n : Nat) {p : Nat} {c : Cs} {l : List PtR}, rdN f L c0 n = .inr (p, c, l) → (n = 0 ∧ p = 0 ∧ c = c0) ∨ (1 ≤ n ∧ 10 + 2 * (n - 1) ≤ p ∧ p ≤ L)
  | 0, p, c, l, h => by cases h; exact Or.inl ⟨rfl, rfl, rfl⟩
  | n + 1, p, c, l, h => by
    unfold rdN at h
    cases hn : rdN f L c0 n with
    | inl e => rw [hn] at h; cases h
    | inr q =>
      obtain ⟨p1, c1, l1⟩ := q
      rw [hn] at h
      dsimp only at h
      by_cases hz : (rdP f L c1 p1).1 = 0
      · rw [if_pos hz] at h
        cases h
        have hc := rdP_cost hz
        have hf := (rdP_fault f L c1 p1 hz).2
        rcases rdN_bound h0 n hn with ⟨a, b, c⟩ | ⟨a, b, c⟩
        · subst c; have := hc.2 h0; exact Or.inr ⟨by omega, by omega, hf⟩
        · have := hc.1; exact Or.inr ⟨by omega, by omega, hf⟩
      · rw [if_neg hz] at h; cases h
def incr (l : List PtR) : Prop := l.Pairwise (fun x y => x.1 < y.1)
theorem rdN_sorted {f : Nat → Nat} {L : Nat} {c0 : Cs} (hc0 : csOk c0) : ∀ (n : Nat) {p : Nat} {c : Cs} {l : List PtR}, rdN f L c0 n = .inr (p, c, l) → incr l ∧ (∀ x ∈ l, c0.1 ≤ x.1 ∧ x.1 ≤ c.1) ∧ (∃ x l', l = x :: l' ∧ x.1 = c0.1 ∧ x.2.1 = c0.2.2.1) ∧ (∃ x ∈ l, x.1 = c.1)
  | 0, p, c, l, h => by
    cases h
    refine ⟨List.pairwise_singleton _ _, fun x hx => ?_, ⟨_, [], rfl, rfl, rfl⟩, ⟨_, List.mem_cons_self, rfl⟩⟩
    rw [List.mem_singleton.mp hx]
    exact ⟨Nat.le_refl _, Nat.le_refl _⟩
  | n + 1, p, c, l, h => by
    unfold rdN at h
    cases hn : rdN f L c0 n with
    | inl e => rw [hn] at h; cases h
    | inr q =>
      obtain ⟨p1, c1, l1⟩ := q
      rw [hn] at h
      dsimp only at h
      by_cases hz : (rdP f L c1 p1).1 = 0
      · rw [if_pos hz] at h
        cases h
        obtain ⟨a1, a2, ⟨x0, l0, a3, a4, a4'⟩, a5⟩ := rdN_sorted hc0 n hn
        have hcf := (rdN_facts hc0 n hn)
        obtain ⟨k1, k2, -⟩ := rdP_ok hcf.1 hz
        refine ⟨?_, fun x hx => ?_, ⟨x0, l0 ++ [_], by rw [a3]; rfl, a4, a4'⟩, ⟨_, List.mem_append_right _ (List.mem_singleton.mpr rfl), rfl⟩⟩
        · refine List.pairwise_append.mpr ⟨a1, List.pairwise_singleton _ _, fun x hx y hy => ?_⟩
          rw [List.mem_singleton.mp hy]
          have := (a2 x hx).2
          show x.1 < (rdP f L c1 p1).2.2.1.1
          omega
        · rcases List.mem_append.mp hx with hx | hx
          · have := a2 x hx; exact ⟨this.1, by omega⟩
          · rw [List.mem_singleton.mp hx]
            have := hcf.2.2.1
            exact ⟨by show c0.1 ≤ (rdP f L c1 p1).2.2.1.1; omega, Nat.le_refl _⟩
      · rw [if_neg hz] at h; cases h
/-- where the bits of what is read lie -/
theorem rs_rd {b : Bk} {p : Nat} {c : Cs} {l : List PtR} (hb : bkOk b) (h : rsB b = .inr (p, c, l)) : rdN (fb b.1 (8 * (nB b - 14))) (8 * (nB b - 14)) (cs0 b.1) (hct b.1 - 1) = .inr (p, c, l) ∧ 14 ≤ nB b ∧ nB b ≤ 199 ∧ 1 ≤ hct b.1 ∧ hst b.1 = b.2.2.2.1 ∧ c.1 = b.2.2.2.2 := by
  obtain ⟨h1, h2, h3, h4, h5, h6, h7⟩ := hb
  cases hs : b.2.2.1 with
  | false =>
    obtain ⟨g1, p', c', l', g2, g3, g4⟩ := h5 hs
    have e := opn_rs hs g2
    rw [h] at e
    cases e
    have : nB b = b.2.1 := by unfold nB; rw [hs]; rfl
    rw [this]
    exact ⟨opn_rd g2, h2, g1, g2.2.2.2.1, g3, g4⟩
  | true =>
    have g1 := h4 hs
    have e2 : nB b = b.2.1 - 1 := by unfold nB; rw [hs]; rfl
    unfold rsB at h
    rw [if_pos hs] at h
    unfold exK at h
    cases hS : exS b.1 b.2.1 with
    | inl e => rw [hS] at h; cases h
    | inr r =>
      rw [hS] at h
      dsimp only at h
      by_cases hx : hst b.1 ≠ b.2.2.2.1 ∨ r.2.1.1 ≠ b.2.2.2.2
      · rw [if_pos hx] at h; cases h
      · rw [if_neg hx] at h
        cases h
        unfold exS at hS
        split at hS
        · cases hS
        split at hS
        · cases hS
        split at hS
        · cases hS
        rename_i c1 c2 c3
        cases hr : rdN (fb b.1 (8 * (b.2.1 - 15))) (8 * (b.2.1 - 15)) (cs0 b.1) (hct b.1 - 1) with
        | inl e => rw [hr] at hS; cases hS
        | inr r =>
          rw [hr] at hS
          dsimp only at hS
          split at hS
          · cases hS
          · cases hS
            rw [e2, show b.2.1 - 1 - 14 = b.2.1 - 15 by omega]
            exact ⟨hr, by omega, by omega, by omega, by omega, by simp only at hx; omega⟩
theorem rs_facts {b : Bk} {p : Nat} {c : Cs} {l : List PtR} (hb : bkOk b) (h : rsB b = .inr (p, c, l)) : l.length = hct b.1 ∧ 1 ≤ l.length ∧ l.length ≤ 737 ∧ p ≤ 1480 ∧ csOk c ∧ incr l ∧ (∀ x ∈ l, b.2.2.2.1 ≤ x.1 ∧ x.1 ≤ b.2.2.2.2) ∧ (∃ x l', l = x :: l' ∧ x.1 = b.2.2.2.1) ∧ (∃ x ∈ l, x.1 = b.2.2.2.2) ∧ c.1 = b.2.2.2.2 ∧ hst b.1 = b.2.2.2.1 := by
  obtain ⟨g1, g2, g3, g4, g5, g6⟩ := rs_rd hb h
  obtain ⟨h1, h2, h3, h4, h5, h6, h7⟩ := hb
  have hc0 : csOk (cs0 b.1) := cs0_ok (by omega)
  obtain ⟨f1, f2, -⟩ := rdN_facts hc0 _ g1
  obtain ⟨s1, s2, ⟨x, l', s3, s4, -⟩, s5⟩ := rdN_sorted hc0 _ g1
  have hbd := rdN_bound (c0 := cs0 b.1) rfl _ g1
  have e0 : (cs0 b.1).1 = b.2.2.2.1 := g5
  rw [e0] at s2 s4
  rw [g6] at s2 s5
  exact ⟨by omega, by omega, by omega, by omega, f1, s1, s2, ⟨x, l', s3, s4⟩, s5, g6, g5⟩
theorem wr_ok {b : Bk} {p : Nat} {c : Cs} {l : List PtR} (hb : bkOk b) (hs : b.2.2.1 = false) (h : rsB b = .inr (p, c, l)) {t : Nat} {v : Int64} (ht1 : c.1 < t) (ht : t ≤ 2000000000) (hp : p + costA c t v ≤ 1480) : bkOk (wrB b p c t v) ∧ rsB (wrB b p c t v) = .inr (p + costA c t v, stepA c t v, l ++ [(t, v, costA c t v, kindA (secA c t), wayA c.2.2.2 (v ^^^ c.2.2.1))]) := by
  have hf := rs_facts hb h
  obtain ⟨h1, h2, h3, h4, h5, h6, h7⟩ := hb
  obtain ⟨g1, p', c', l', g2, g3, g4⟩ := h5 hs
  have e := opn_rs hs g2
  rw [h] at e
  cases e
  have h14 : ∀ i, i < 14 → b.1 i < 256 := fun i hi => h1 i (by omega)
  have hct : hct b.1 < 65535 := by omega
  obtain ⟨w1, w2⟩ := wr_opn (v := v) g2 h14 hct ht1 ht
  have w3 : hst (wrB b p c t v).1 = b.2.2.2.1 := by
    have : hst (wrB b p c t v).1 = hst b.1 := congrArg Prod.fst w2
    rw [this]; exact g3
  refine ⟨⟨fun i _ => wrF_lt h14 hct i, ?_, ?_, fun z => absurd z (by simp [wrB]), fun _ => ⟨?_, _, _, _, w1, w3, rfl⟩, ?_, ht⟩, opn_rs rfl w1⟩
  · show 14 ≤ 14 + _; omega
  · show 14 + (p + costA c t v + 7) / 8 ≤ 200; omega
  · show 14 + (p + costA c t v + 7) / 8 ≤ 199; omega
  · show b.2.2.2.1 ≤ t; omega
