/-! ===== a block: read whole ===== -/
abbrev PtR : Type := Nat × Int64 × Nat × Nat × Nat
/-- a bit of bytes, from the block's begin on -/
def ab (by_ : Nat → Nat) (q : Nat) : Nat := by_ (q / 8) / 2 ^ (7 - q % 8) % 2
/-- a bit behind the head, 0 behind the end -/
def fb (by_ : Nat → Nat) (L q : Nat) : Nat := if q < L then ab by_ (112 + q) else 0
theorem ab_lt (by_ : Nat → Nat) (q : Nat) : ab by_ q < 2 := Nat.mod_lt _ (by decide)
theorem fb_lt (by_ : Nat → Nat) (L q : Nat) : fb by_ L q < 2 := by
  unfold fb; split
  · exact ab_lt _ _
  · decide
def hst (by_ : Nat → Nat) : Nat := num (ab by_) 0 32
def hvl (by_ : Nat → Nat) : Int64 := lN (num (ab by_) 32 64)
def hct (by_ : Nat → Nat) : Nat := num (ab by_) 96 16
def cs0 (by_ : Nat → Nat) : Cs := (hst by_, 0, hvl by_, none)
/-- points behind the first, one by one -/
def rdN (f : Nat → Nat) (L : Nat) (c0 : Cs) : Nat → (Nat × Nat) ⊕ (Nat × Cs × List PtR)
  | 0 => .inr (0, c0, [(c0.1, c0.2.2.1, 0, 9, 9)])
  | n + 1 => match rdN f L c0 n with
    | .inl e => .inl e
    | .inr (p, c, l) => if (rdP f L c p).1 = 0 then .inr ((rdP f L c p).2.1, (rdP f L c p).2.2.1, l ++ [((rdP f L c p).2.2.1.1, (rdP f L c p).2.2.1.2.2.1, (rdP f L c p).2.1 - p, (rdP f L c p).2.2.2.1, (rdP f L c p).2.2.2.2)]) else .inl ((rdP f L c p).1, p)
def chk (by_ : Nat → Nat) : Nat → Nat
  | 0 => 7
  | n + 1 => (chk by_ n * 31 + by_ n) % 251
theorem chk_lt (by_ : Nat → Nat) (n : Nat) : chk by_ n < 251 := by
  cases n with
  | zero => show 7 < 251; decide
  | succ n => exact Nat.mod_lt _ (by decide)
theorem chk_congr {f g : Nat → Nat} {n : Nat} (h : ∀ i, i < n → f i = g i) : chk f n = chk g n := by
  induction n with
  | zero => rfl
  | succ n ih => rw [chk, chk, ih (fun i hi => h i (by omega)), h n (by omega)]
/-- the fault and its place of a sealed block of so many bytes, 7 aside; else where its bits end, the point ahead then, its points -/
def exS (by_ : Nat → Nat) (size : Nat) : (Nat × Int) ⊕ (Nat × Cs × List PtR) :=
  if size < 15 ∨ by_ (size - 1) ≠ chk by_ (size - 1) then .inl (1, -1)
  else if hct by_ = 0 then .inl (5, 0)
  else if 2000000000 < hst by_ then .inl (3, 0)
  else match rdN (fb by_ (8 * (size - 15))) (8 * (size - 15)) (cs0 by_) (hct by_ - 1) with
    | .inl e => .inl (e.1, (e.2 : Int))
    | .inr r => if 7 < 8 * (size - 15) - r.1 ∨ num (fb by_ (8 * (size - 15))) r.1 (8 * (size - 15) - r.1) ≠ 0 then .inl (6, (r.1 : Int)) else .inr r
/-- with the stamps that it had when it was sealed -/
def exK (by_ : Nat → Nat) (size fst lst : Nat) : (Nat × Int) ⊕ (Nat × Cs × List PtR) := match exS by_ size with
  | .inl e => .inl e
  | .inr r => if hst by_ ≠ fst ∨ r.2.1.1 ≠ lst then .inl (7, 0) else .inr r
theorem kindR_congr {f g : Nat → Nat} {p L : Nat} (h : ∀ q, q < L → f q = g q) (hL : p + kwid (kindR f p) ≤ L) : kindR g p = kindR f p := by
  unfold kindR at hL ⊢
  by_cases c0 : f p = 0
  · rw [if_pos c0] at hL ⊢
    simp only [kwid] at hL
    rw [if_pos (by rw [← h p (by simp at hL; omega)]; exact c0)]
  rw [if_neg c0] at hL ⊢
  by_cases c1 : f (p + 1) = 0
  · rw [if_pos c1] at hL ⊢
    simp [kwid] at hL
    rw [if_neg (by rw [← h p (by omega)]; exact c0), if_pos (by rw [← h (p + 1) (by omega)]; exact c1)]
  rw [if_neg c1] at hL ⊢
  by_cases c2 : f (p + 2) = 0
  · rw [if_pos c2] at hL ⊢
    simp [kwid] at hL
    rw [if_neg (by rw [← h p (by omega)]; exact c0), if_neg (by rw [← h (p + 1) (by omega)]; exact c1), if_pos (by rw [← h (p + 2) (by omega)]; exact c2)]
  rw [if_neg c2] at hL ⊢
  by_cases c3 : f (p + 3) = 0
  · rw [if_pos c3] at hL ⊢
    simp [kwid] at hL
    rw [if_neg (by rw [← h p (by omega)]; exact c0), if_neg (by rw [← h (p + 1) (by omega)]; exact c1), if_neg (by rw [← h (p + 2) (by omega)]; exact c2), if_pos (by rw [← h (p + 3) (by omega)]; exact c3)]
  · rw [if_neg c3] at hL ⊢
    simp [kwid] at hL
    rw [if_neg (by rw [← h p (by omega)]; exact c0), if_neg (by rw [← h (p + 1) (by omega)]; exact c1), if_neg (by rw [← h (p + 2) (by omega)]; exact c2), if_neg (by rw [← h (p + 3) (by omega)]; exact c3)]
theorem rdV_end (f : Nat → Nat) (w : Win) (p : Nat) : p + 1 ≤ (rdV f w p).2.2.2.2 := by
  unfold rdV
  split
  · exact Nat.le_refl _
  split
  · show p + 1 ≤ p + 2 + _; omega
  · show p + 1 ≤ p + 13 + _; omega
theorem rdV_congr {f g : Nat → Nat} {w : Win} {p L : Nat} (h : ∀ q, q < L → f q = g q) (hL : (rdV f w p).2.2.2.2 ≤ L) : rdV g w p = rdV f w p := by
  have hp := rdV_end f w p
  unfold rdV at hL hp ⊢
  by_cases c0 : f p = 0
  · rw [if_pos c0, if_pos (by rw [← h p (by omega)]; exact c0)]
  rw [if_neg c0] at hL hp ⊢
  rw [if_neg (by rw [← h p (by omega)]; exact c0)]
  by_cases c1 : f (p + 1) = 0
  · rw [if_pos c1] at hL hp ⊢
    dsimp only at hL
    rw [if_pos (by rw [← h (p + 1) (by omega)]; exact c1), num_congr (f := g) (g := f) (fun q h1 h2 => (h q (by omega)).symm)]
  · rw [if_neg c1] at hL hp ⊢
    dsimp only at hL
    rw [if_neg (by rw [← h (p + 1) (by omega)]; exact c1)]
    have e1 : num g (p + 2) 5 = num f (p + 2) 5 := num_congr (fun q h1 h2 => (h q (by omega)).symm)
    have e2 : num g (p + 7) 6 = num f (p + 7) 6 := num_congr (fun q h1 h2 => (h q (by omega)).symm)
    rw [e1, e2]
    have e3 : num g (p + 13) (num f (p + 7) 6 + 1) = num f (p + 13) (num f (p + 7) 6 + 1) := num_congr (fun q h1 h2 => (h q (by omega)).symm)
    rw [e3]
theorem rdP_fault (f : Nat → Nat) (L : Nat) (c : Cs) (p : Nat) (h : (rdP f L c p).1 = 0) : (rdP f L c p).2.1 = (rdV f c.2.2.2 (p + kwid (kindR f p) + cwid (kindR f p))).2.2.2.2 ∧ (rdP f L c p).2.1 ≤ L := by
  unfold rdP at h ⊢
  dsimp only at h ⊢
  by_cases c1 : L < (rdV f c.2.2.2 (p + kwid (kindR f p) + cwid (kindR f p))).2.2.2.2
  · rw [if_pos c1] at h; simp at h
  rw [if_neg c1] at h ⊢
  split at h
  · simp at h
  split at h
  · simp at h
  · rename_i c2 c3
    rw [if_neg c2, if_neg c3]
    exact ⟨rfl, Nat.not_lt.mp c1⟩
/-- a point that was read is read so too where more bits follow -/
theorem rdP_mono {f g : Nat → Nat} {L L' : Nat} {c : Cs} {p : Nat} (hLL : L ≤ L') (h : ∀ q, q < L → f q = g q) (h0 : (rdP f L c p).1 = 0) : rdP g L' c p = rdP f L c p := by
  obtain ⟨e, hle⟩ := rdP_fault f L c p h0
  rw [e] at hle
  have hend := rdV_end f c.2.2.2 (p + kwid (kindR f p) + cwid (kindR f p))
  have hk := kindR_congr (p := p) h (by omega)
  have hn : num g (p + kwid (kindR f p)) (cwid (kindR f p)) = num f (p + kwid (kindR f p)) (cwid (kindR f p)) := num_congr (fun q h1 h2 => (h q (by omega)).symm)
  have hv := rdV_congr h hle
  unfold rdP
  simp only [hk, hn, hv]
  rw [if_neg (show ¬ L' < _ by omega), if_neg (show ¬ L < _ by omega)]
theorem rdN_mono {f g : Nat → Nat} {L L' : Nat} {c0 : Cs} (hLL : L ≤ L') (h : ∀ q, q < L → f q = g q) : ∀ (n : Nat) {r : Nat × Cs × List PtR}, rdN f L c0 n = .inr r → rdN g L' c0 n = .inr r
  | 0, r, hr => hr
  | n + 1, r, hr => by
    unfold rdN at hr ⊢
    cases hn : rdN f L c0 n with
    | inl e => rw [hn] at hr; cases hr
    | inr q =>
      obtain ⟨p, c, l⟩ := q
      rw [hn] at hr
      rw [rdN_mono hLL h n hn]
      dsimp only at hr ⊢
      by_cases h0 : (rdP f L c p).1 = 0
      · rw [if_pos h0] at hr
        rw [rdP_mono hLL h h0, if_pos h0]
        exact hr
      · rw [if_neg h0] at hr; cases hr
/-- the WINDOW of a point ahead that was read is a right one -/
theorem rdP_ok {f : Nat → Nat} {L : Nat} {c : Cs} {p : Nat} (hc : csOk c) (h : (rdP f L c p).1 = 0) : csOk (rdP f L c p).2.2.1 ∧ c.1 < (rdP f L c p).2.2.1.1 ∧ (rdP f L c p).2.2.1.2.1 = (rdP f L c p).2.2.1.1 - c.1 ∧ (rdP f L c p).2.2.2.1 ≤ 4 := by
  unfold rdP at h ⊢
  dsimp only at h ⊢
  split at h
  · simp at h
  split at h
  · simp at h
  split at h
  · simp at h
  · rename_i c1 c2 c3
    rw [if_neg c1, if_neg c2, if_neg c3]
    dsimp only
    refine ⟨⟨?_, ?_, ?_⟩, ?_, ?_, kindR_le _ _⟩
    · show Int.toNat _ ≤ _; omega
    · show Int.toNat _ ≤ _; omega
    · show winOk (if _ then _ else _)
      split
      · rename_i c7
        have hb : okB c.2.2.2 (rdV f c.2.2.2 (p + kwid (kindR f p) + cwid (kindR f p))) = true := by
          cases hh : okB c.2.2.2 (rdV f c.2.2.2 (p + kwid (kindR f p) + cwid (kindR f p))) with
          | true => rfl
          | false => rw [hh] at c3; simp at c3
        simp only [okB, c7, Bool.or_eq_true, Bool.and_eq_true, beq_iff_eq] at hb
        rcases hb with hb | ⟨-, hb | ⟨h1, h2⟩⟩
        · omega
        · omega
        · have := leadA_le (rdV f c.2.2.2 (p + kwid (kindR f p) + cwid (kindR f p))).2.1
          refine ⟨by omega, ?_⟩
          show _ + (64 - _ - _) ≤ 63
          have h3 : 1 ≤ (rdV f c.2.2.2 (p + kwid (kindR f p) + cwid (kindR f p))).2.2.2.1 := by
            revert c7
            unfold rdV
            split
            · intro h; simp at h
            split
            · intro h; simp at h
            · intro _; show 1 ≤ _ + 1; omega
          omega
      · exact hc.2.2
    · show c.1 < Int.toNat _; omega
    · show Int.toNat _ = Int.toNat _ - c.1; omega
/-- a point more, behind all that were read -/
theorem rdN_more {f g : Nat → Nat} {L L' : Nat} {c0 c : Cs} {n p : Nat} {l : List PtR} (hf : ∀ q, g q < 2) (hn : rdN f L c0 n = .inr (p, c, l)) (hpL : p ≤ L) (hc : csOk c) (h : ∀ q, q < L → f q = g q) {t : Nat} {v : Int64} (ht1 : c.1 < t) (ht : t ≤ 2000000000) (hb : num g p (chW (encP c t v)) = chN (encP c t v)) (hL1 : L ≤ L') (hL2 : p + chW (encP c t v) ≤ L') :
    rdN g L' c0 (n + 1) = .inr (p + chW (encP c t v), stepA c t v, l ++ [(t, v, chW (encP c t v), kindA (secA c t), wayA c.2.2.2 (v ^^^ c.2.2.1))]) := by
  have h1 := rdN_mono hL1 h n hn
  have h2 := rdP_enc hf hc ht1 ht hb hL2
  unfold rdN
  rw [h1]
  dsimp only
  rw [h2]
  simp only [if_true]
  rw [Nat.add_sub_cancel_left]
  rfl
theorem rdN_le {f : Nat → Nat} {L : Nat} {c0 : Cs} : ∀ (n : Nat) {p : Nat} {c : Cs} {l : List PtR}, rdN f L c0 n = .inr (p, c, l) → p ≤ L ∨ n = 0
  | 0, _, _, _, _ => Or.inr rfl
  | n + 1, p, c, l, h => by
    unfold rdN at h
    cases hn : rdN f L c0 n with
    | inl e => rw [hn] at h; cases h
    | inr q =>
      obtain ⟨p1, c1, l1⟩ := q
      rw [hn] at h
      dsimp only at h
      by_cases h0 : (rdP f L c1 p1).1 = 0
      · rw [if_pos h0] at h
        cases h
        exact Or.inl (rdP_fault f L c1 p1 h0).2
      · rw [if_neg h0] at h; cases h
theorem rdN_facts {f : Nat → Nat} {L : Nat} {c0 : Cs} (hc0 : csOk c0) : ∀ (n : Nat) {p : Nat} {c : Cs} {l : List PtR}, rdN f L c0 n = .inr (p, c, l) → csOk c ∧ l.length = n + 1 ∧ c0.1 ≤ c.1 ∧ (∃ x, l.getLast? = some x ∧ x.1 = c.1 ∧ x.2.1 = c.2.2.1)
  | 0, p, c, l, h => by cases h; exact ⟨hc0, rfl, Nat.le_refl _, _, rfl, rfl, rfl⟩
  | n + 1, p, c, l, h => by
    unfold rdN at h
    cases hn : rdN f L c0 n with
    | inl e => rw [hn] at h; cases h
    | inr q =>
      obtain ⟨p1, c1, l1⟩ := q
      rw [hn] at h
      dsimp only at h
      obtain ⟨g1, g2, g3, -⟩ := rdN_facts hc0 n hn
      by_cases h0 : (rdP f L c1 p1).1 = 0
      · rw [if_pos h0] at h
        cases h
        obtain ⟨k1, k2, -⟩ := rdP_ok g1 h0
        exact ⟨k1, by simp [g2], by omega, _, List.getLast?_concat, rfl, rfl⟩
      · rw [if_neg h0] at h; cases h
