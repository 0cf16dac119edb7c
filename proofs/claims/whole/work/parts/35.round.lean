/-! ===== a point read; what was told is read ===== -/
def okB (w : Win) (r : Nat × Int64 × Nat × Nat × Nat) : Bool := r.1 == 5 || (wayA w r.2.1 == r.1 && (r.1 == 6 || (r.2.2.1 == leadA r.2.1 && r.2.2.1 + r.2.2.2.1 + tz r.2.1 == 64)))
/-- fault, end, the point ahead then, CLASS, WAY -/
def rdP (f : Nat → Nat) (L : Nat) (c : Cs) (p : Nat) : Nat × Nat × Cs × Nat × Nat :=
  let k := kindR f p
  let s := sgnA k (num f (p + kwid k) (cwid k))
  let r := rdV f c.2.2.2 (p + kwid k + cwid k)
  if L < r.2.2.2.2 then (2, r.2.2.2.2, c, k, r.1)
  else if (c.2.1 : Int) + s < 1 ∨ 2000000000 < (c.1 : Int) + c.2.1 + s then (3, r.2.2.2.2, c, k, r.1)
  else if (kindA s == k && okB c.2.2.2 r) = false then (4, r.2.2.2.2, c, k, r.1)
  else (0, r.2.2.2.2, (((c.1 : Int) + c.2.1 + s).toNat, ((c.2.1 : Int) + s).toNat, c.2.2.1 ^^^ r.2.1, if r.1 = 7 then some (r.2.2.1, 64 - r.2.2.1 - r.2.2.2.1) else c.2.2.2), k, r.1)
def winOk (w : Win) : Prop := match w with
  | none => True
  | some q => q.1 ≤ 31 ∧ q.1 + q.2 ≤ 63
def csOk (c : Cs) : Prop := c.1 ≤ 2000000000 ∧ c.2.1 ≤ 2000000000 ∧ winOk c.2.2.2
theorem xor_back (a b : Int64) : a ^^^ (b ^^^ a) = b := by
  apply wb_inj
  rw [Int64.toBitVec_xor, Int64.toBitVec_xor, BitVec.xor_comm b.toBitVec, ← BitVec.xor_assoc, BitVec.xor_self, BitVec.zero_xor]
theorem leadA_le (x : Int64) : leadA x ≤ 31 := by unfold leadA; omega
theorem widA_e {x : Int64} (h : x ≠ 0) : leadA x + widA x + tz x = 64 ∧ 1 ≤ widA x ∧ widA x ≤ 64 := by
  have := lztz h
  unfold widA leadA
  omega
theorem own_lt {x : Int64} (h : x ≠ 0) : uN x / 2 ^ tz x < 2 ^ widA x := by
  have h1 := lztz h
  have h2 := (lz_x x).2.2
  rw [Nat.div_lt_iff_lt_mul (Nat.two_pow_pos _), ← Nat.pow_add]
  refine Nat.lt_of_lt_of_le h2 (Nat.pow_le_pow_right (by omega) ?_)
  have := widA_e h
  unfold leadA at this
  omega
theorem win_lt {x : Int64} {l t : Nat} (hl : l ≤ lz x) (hlt : l + t ≤ 63) : uN x / 2 ^ t < 2 ^ (64 - l - t) := by
  have h2 := (lz_x x).2
  rw [Nat.div_lt_iff_lt_mul (Nat.two_pow_pos _), ← Nat.pow_add]
  refine Nat.lt_of_lt_of_le h2.2 (Nat.pow_le_pow_right (by omega) ?_)
  omega
theorem back_t {x : Int64} {t : Nat} (h : t ≤ tz x) : lN (uN x / 2 ^ t * 2 ^ t) = x := by
  have h1 := (tz_x x).2.2
  rw [Nat.div_mul_cancel (Nat.dvd_trans (Nat.pow_dvd_pow 2 h) h1), lN_uN]
theorem wayA_cases (w : Win) (x : Int64) : (x = 0 ∧ wayA w x = 5) ∨ (x ≠ 0 ∧ wayA w x = 7) ∨ (x ≠ 0 ∧ wayA w x = 6 ∧ ∃ l t, w = some (l, t) ∧ l ≤ lz x ∧ t ≤ tz x) := by
  unfold wayA
  by_cases hx : x = 0
  · exact Or.inl ⟨hx, if_pos hx⟩
  · rw [if_neg hx]
    cases w with
    | none => exact Or.inr (Or.inl ⟨hx, rfl⟩)
    | some q =>
      by_cases c : q.1 ≤ lz x ∧ q.2 ≤ tz x ∧ lz x + tz x ≤ q.1 + q.2 + 11
      · exact Or.inr (Or.inr ⟨hx, by simp [c], q.1, q.2, rfl, c.1, c.2.1⟩)
      · exact Or.inr (Or.inl ⟨hx, by simp [c]⟩)
theorem encV_ok {w : Win} (hw : winOk w) (x : Int64) : chOk (encV w x) := by
  unfold encV
  rcases wayA_cases w x with ⟨h1, h2⟩ | ⟨h1, h2⟩ | ⟨h1, h2, l, t, rfl, h3, h4⟩
  · rw [if_pos h2]
    intro c hc
    simp only [List.mem_cons, List.not_mem_nil, or_false] at hc
    subst hc; decide
  · rw [if_neg (by omega), if_neg (by omega)]
    intro c hc
    simp only [List.mem_cons, List.not_mem_nil, or_false] at hc
    have h5 := leadA_le x
    have h6 := widA_e h1
    rcases hc with rfl | rfl | rfl | rfl
    · decide
    · show leadA x < 2 ^ 5; omega
    · show widA x - 1 < 2 ^ 6; omega
    · exact own_lt h1
  · rw [if_neg (by omega), if_pos h2]
    intro c hc
    simp only [List.mem_cons, List.not_mem_nil, or_false] at hc
    rcases hc with rfl | rfl
    · decide
    · exact win_lt h3 hw.2
theorem kpfx_lt (k : Nat) : kpfx k < 2 ^ kwid k := by
  unfold kpfx kwid
  repeat (first | decide | split)
theorem encP_ok {c : Cs} (hc : csOk c) (t : Nat) (v : Int64) : chOk (encP c t v) := by
  intro q hq
  unfold encP at hq
  rcases List.mem_cons.mp hq with rfl | hq
  · exact kpfx_lt _
  rcases List.mem_cons.mp hq with rfl | hq
  · exact lowA_lt _ _
  · exact encV_ok hc.2.2 _ q hq
theorem rdV_enc {f : Nat → Nat} (hf : ∀ q, f q < 2) {w : Win} (hw : winOk w) {x : Int64} {p : Nat} (h : num f p (chW (encV w x)) = chN (encV w x)) :
    (rdV f w p).1 = wayA w x ∧ (rdV f w p).2.1 = x ∧ (rdV f w p).2.2.2.2 = p + chW (encV w x) ∧ okB w (rdV f w p) = true ∧ (wayA w x = 7 → (rdV f w p).2.2.1 = leadA x ∧ 64 - (rdV f w p).2.2.1 - (rdV f w p).2.2.2.1 = tz x) := by
  have hok := encV_ok hw x
  rcases wayA_cases w x with ⟨h1, h2⟩ | ⟨h1, h2⟩ | ⟨h1, h2, l, t, rfl, h3, h4⟩
  · have e : encV w x = [(0, 1)] := by unfold encV; rw [if_pos h2]
    rw [e] at h
    have hp : f p = 0 := by simpa [chW, chN, num] using h
    have e2 : rdV f w p = (5, 0, 0, 0, p + 1) := by unfold rdV; rw [if_pos hp]
    rw [e2, e, h2]
    exact ⟨rfl, h1.symm, by simp [chW], by simp [okB], fun z => by omega⟩
  · have e : encV w x = [(3, 2), (leadA x, 5), (widA x - 1, 6), (uN x / 2 ^ tz x, widA x)] := by unfold encV; rw [if_neg (by omega), if_neg (by omega)]
    rw [e] at h hok
    obtain ⟨g1, g2⟩ := num_ch hf hok h
    have hok2 : chOk [(leadA x, 5), (widA x - 1, 6), (uN x / 2 ^ tz x, widA x)] := fun c hc => hok c (List.mem_cons_of_mem _ hc)
    obtain ⟨g3, g4⟩ := num_ch hf hok2 g2
    have hok3 : chOk [(widA x - 1, 6), (uN x / 2 ^ tz x, widA x)] := fun c hc => hok2 c (List.mem_cons_of_mem _ hc)
    obtain ⟨g5, g6⟩ := num_ch hf hok3 g4
    have hok4 : chOk [(uN x / 2 ^ tz x, widA x)] := fun c hc => hok3 c (List.mem_cons_of_mem _ hc)
    obtain ⟨g7, -⟩ := num_ch hf hok4 g6
    dsimp only at g1 g3 g5 g7
    have hw6 := widA_e h1
    have hp0 := hf p
    have hp1 := hf (p + 1)
    have e0 : num f p 2 = 2 * f p + f (p + 1) := by simp [num]
    have f0 : f p = 1 := by omega
    have f1 : f (p + 1) = 1 := by omega
    have a1 : p + 2 + 5 = p + 7 := by omega
    have a2 : p + 7 + 6 = p + 13 := by omega
    rw [a1] at g5 g7
    rw [a2] at g7
    have e6 : num f (p + 7) 6 + 1 = widA x := by omega
    have e2 : rdV f w p = (7, x, leadA x, widA x, p + 13 + widA x) := by
      unfold rdV
      rw [if_neg (by omega), if_neg (by omega), e6, g3, g7, if_neg (by omega)]
      rw [show 64 - leadA x - widA x = tz x by omega, back_t (Nat.le_refl _)]
    rw [e2, e, h2]
    refine ⟨rfl, rfl, by simp [chW]; omega, ?_, fun _ => ⟨rfl, by show 64 - leadA x - widA x = tz x; omega⟩⟩
    simp [okB, h2]; omega
  · have e : encV (some (l, t)) x = [(2, 2), (uN x / 2 ^ t, 64 - l - t)] := by unfold encV; rw [if_neg (by omega), if_pos h2]; rfl
    rw [e] at h hok
    obtain ⟨g1, g2⟩ := num_ch hf hok h
    have hok2 : chOk [(uN x / 2 ^ t, 64 - l - t)] := fun c hc => hok c (List.mem_cons_of_mem _ hc)
    obtain ⟨g3, -⟩ := num_ch hf hok2 g2
    dsimp only at g1 g3
    have hp0 := hf p
    have hp1 := hf (p + 1)
    have e0 : num f p 2 = 2 * f p + f (p + 1) := by simp [num]
    have e2 : rdV f (some (l, t)) p = (6, x, 0, 0, p + 2 + (64 - l - t)) := by
      unfold rdV
      rw [if_neg (by omega), if_pos (by omega)]
      show (6, lN (num f (p + 2) (64 - l - t) * 2 ^ t), 0, 0, p + 2 + (64 - l - t)) = _
      rw [g3, back_t h4]
    rw [e2, e, h2]
    refine ⟨rfl, rfl, by simp [chW]; omega, by simp [okB, h2], fun z => by omega⟩
theorem rdP_enc {f : Nat → Nat} (hf : ∀ q, f q < 2) {c : Cs} (hc : csOk c) {t L p : Nat} {v : Int64} (ht1 : c.1 < t) (ht : t ≤ 2000000000) (h : num f p (chW (encP c t v)) = chN (encP c t v)) (hL : p + chW (encP c t v) ≤ L) :
    rdP f L c p = (0, p + chW (encP c t v), stepA c t v, kindA (secA c t), wayA c.2.2.2 (v ^^^ c.2.2.1)) := by
  have hok := encP_ok hc t v
  obtain ⟨hs, hfa, hw⟩ := hc
  have hok' := hok
  unfold encP at h hok'
  obtain ⟨g1, g2⟩ := num_ch hf hok' h
  have hok2 : chOk ((lowA (kindA (secA c t)) (secA c t), cwid (kindA (secA c t))) :: encV c.2.2.2 (v ^^^ c.2.2.1)) := fun q hq => hok' q (List.mem_cons_of_mem _ hq)
  obtain ⟨g3, g4⟩ := num_ch hf hok2 g2
  dsimp only at g1 g2 g3 g4
  have hk := kindR_of hf (kindA_le (secA c t)) g1
  obtain ⟨v1, v2, v3, v4, v5⟩ := rdV_enc hf hw g4
  have hsec : secA c t = (t : Int) - c.1 - c.2.1 := rfl
  have hsg := sgn_low (s := secA c t) (by omega) (by omega)
  have hW : p + chW (encP c t v) = p + kwid (kindA (secA c t)) + cwid (kindA (secA c t)) + chW (encV c.2.2.2 (v ^^^ c.2.2.1)) := by unfold encP; simp only [chW]; omega
  unfold rdP
  simp only [hk, g3, hsg, v3]
  rw [if_neg (by omega), if_neg (by omega), v4]
  simp only [beq_self_eq_true, Bool.and_self, Bool.true_eq_false, if_false]
  rw [hW, v1, v2, xor_back]
  unfold stepA
  have e1 : ((c.1 : Int) + c.2.1 + secA c t).toNat = t := by omega
  have e2 : ((c.2.1 : Int) + secA c t).toNat = t - c.1 := by omega
  rw [e1, e2]
  by_cases h7 : wayA c.2.2.2 (v ^^^ c.2.2.1) = 7
  · obtain ⟨w1, w2⟩ := v5 h7
    simp only [h7, if_true]
    rw [w2, w1]
  · simp only [h7, if_false]
theorem stepA_ok {c : Cs} (hc : csOk c) {t : Nat} {v : Int64} (ht : t ≤ 2000000000) : csOk (stepA c t v) := by
  refine ⟨ht, by show t - c.1 ≤ _; omega, ?_⟩
  show winOk (if wayA c.2.2.2 (v ^^^ c.2.2.1) = 7 then some (leadA (v ^^^ c.2.2.1), tz (v ^^^ c.2.2.1)) else c.2.2.2)
  split
  · rename_i h7
    rcases wayA_cases c.2.2.2 (v ^^^ c.2.2.1) with ⟨h1, h2⟩ | ⟨h1, h2⟩ | ⟨h1, h2, -⟩
    · omega
    · have := widA_e h1; have := leadA_le (v ^^^ c.2.2.1)
      exact ⟨by omega, by show leadA _ + tz _ ≤ 63; omega⟩
    · omega
  · exact hc.2.2
