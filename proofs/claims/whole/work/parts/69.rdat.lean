/-! ===== the points of a sound block, one by one ===== -/
theorem rdP_len {f : Nat → Nat} (hf : ∀ q, f q < 2) {L : Nat} {c : Cs} {p : Nat} (hc : csOk c) (h : (rdP f L c p).1 = 0) : (rdP f L c p).2.1 - p = costA c (rdP f L c p).2.2.1.1 (rdP f L c p).2.2.1.2.2.1 := by
  have hsh := rdV_shape hf c.2.2.2 (p + kwid (kindR f p) + cwid (kindR f p))
  have hE : ∀ w q, (rdV f w q).2.2.2.2 = q + (if (rdV f w q).1 = 5 then 1 else if (rdV f w q).1 = 6 then 2 + winW w else 13 + (rdV f w q).2.2.2.1) := by
    intro w q
    unfold rdV
    split
    · rfl
    split
    · show q + 2 + winW w = q + (2 + winW w); omega
    · show q + 13 + (num f (q + 7) 6 + 1) = q + (13 + (num f (q + 7) 6 + 1)); omega
  have hE := hE c.2.2.2 (p + kwid (kindR f p) + cwid (kindR f p))
  rw [costA_e]
  unfold rdP at h ⊢
  dsimp only at h ⊢
  split at h
  · simp at h
  split at h
  · simp at h
  split at h
  · simp at h
  rename_i c1 c2 c3
  rw [if_neg c1, if_neg c2, if_neg c3]
  dsimp only
  generalize hR : rdV f c.2.2.2 (p + kwid (kindR f p) + cwid (kindR f p)) = R at *
  have hb : kindA (sgnA (kindR f p) (num f (p + kwid (kindR f p)) (cwid (kindR f p)))) = kindR f p ∧ okB c.2.2.2 R = true := by
    cases h1 : (kindA (sgnA (kindR f p) (num f (p + kwid (kindR f p)) (cwid (kindR f p)))) == kindR f p && okB c.2.2.2 R) with
    | false => exact absurd h1 c3
    | true => simpa using h1
  generalize sgnA (kindR f p) (num f (p + kwid (kindR f p)) (cwid (kindR f p))) = sg at *
  have hsec : secA c ((c.1 : Int) + c.2.1 + sg).toNat = sg := by unfold secA; omega
  rw [hsec, hb.1, xor_d]
  obtain ⟨-, hw⟩ := step_same (t := 0) hb.2 hsh.1 hsh.2.1
  rw [hw, hE]
  have hok := hb.2
  simp only [okB, Bool.or_eq_true, Bool.and_eq_true, beq_iff_eq] at hok
  rcases hsh.1 with h5 | h6 | h7
  · rw [if_pos h5, if_pos h5]; omega
  · rw [if_neg (by omega), if_pos h6, if_neg (by omega), if_pos h6]; omega
  · rw [if_neg (by omega), if_neg (by omega), if_neg (by omega), if_neg (by omega)]
    rcases hok with hok | ⟨g1, g2 | ⟨g3, g4⟩⟩
    · omega
    · omega
    · have x0 : R.2.1 ≠ 0 := by
        intro z
        rw [z, wayA_0] at g1
        omega
      have := widA_e x0
      omega
theorem rdN_prefix {f : Nat → Nat} {L : Nat} {c0 : Cs} : ∀ (n : Nat) {p : Nat} {c : Cs} {l : List PtR}, rdN f L c0 n = .inr (p, c, l) → ∀ i, i ≤ n → ∃ p' c', rdN f L c0 i = .inr (p', c', l.take (i + 1)) ∧ l.length = n + 1
  | 0, p, c, l, h, i, hi => by
    cases h
    have : i = 0 := by omega
    subst this
    exact ⟨_, _, rfl, rfl⟩
  | n + 1, p, c, l, h, i, hi => by
    have h' := h
    unfold rdN at h
    cases hn : rdN f L c0 n with
    | inl e => rw [hn] at h; cases h
    | inr q =>
      obtain ⟨p1, c1, l1⟩ := q
      rw [hn] at h
      dsimp only at h
      split at h
      · cases h
        obtain ⟨-, -, -, hl⟩ := rdN_prefix n hn n (Nat.le_refl _)
        by_cases ci : i = n + 1
        · subst ci
          refine ⟨(rdP f L c1 p1).2.1, (rdP f L c1 p1).2.2.1, ?_, by simp [hl]⟩
          rw [h', List.take_of_length_le (by simp [hl])]
        · obtain ⟨p', c', e1, -⟩ := rdN_prefix n hn i (by omega)
          refine ⟨p', c', ?_, by simp [hl]⟩
          rw [e1, List.take_append_of_le_length (by omega)]
      · cases h
/-- the reader behind point i of a block -/
def rdAt (K : Kn) (m : Mem) (r β : Nat) (b : Bk) (i : Nat) : Prop := ∃ p c l, rdN (fb b.1 (8 * (nB b - 14))) (8 * (nB b - 14)) (cs0 b.1) i = .inr (p, c, l) ∧ reR K m r β b.1 (112 + p) (112 + 8 * (nB b - 14)) c
theorem snd_rs {b : Bk} (h : sndB b = true) : ∃ p c, rsB b = .inr (p, c, ptsB b) := by
  unfold sndB at h
  unfold ptsB
  cases hr : rsB b with
  | inl e => rw [hr] at h; simp at h
  | inr r => exact ⟨r.1, r.2.1, rfl⟩
theorem open_bk {K : Kn} {m : Mem} {r a : Nat} {b : Bk} (hr : rdS K m r) (h : bkR K m a b) (hok : bkOk b) (hs : sndB b = true) (hra : offr r a) (hra1 : offr r (a + 1)) : ∃ m', F_X6_open K m r a = some m' ∧ rdAt K m' r (a + 1) b 0 ∧ rdS K m' r ∧ eqOn (offr r) m m' ∧ szm m' = szm m ∧ (∀ k, 3 ≤ k → k ≤ 6 → gI m' r k = gI m r k) ∧ ∃ x, (ptsB b)[0]? = some x ∧ gI m' (r + 1) 0 = nI x.1 ∧ gJ m' (r + 1) 2 = x.2.1 := by
  obtain ⟨p, c, hrs⟩ := snd_rs hs
  obtain ⟨g1, g2, g3, g4, g5, g6⟩ := rs_rd hok hrs
  have hby := h.by hok
  obtain ⟨t1, t2, t3, t4, t5, t6, t7, t8, t9⟩ := h
  obtain ⟨q1, q2, q3, q4, q5, q6, q7⟩ := hok
  have hn : b.2.1 = if b.2.2.1 = true then nB b + 1 else nB b := by
    unfold nB at g2 ⊢
    cases hse : b.2.2.1 with
    | true => have := q4 hse; simp; omega
    | false => simp
  obtain ⟨m', o1, o2, o3, o4, o5, o6, o7, o8, o9, o10⟩ := open_ok (n := nB b) (by_ := b.1) hr t1 t3 hra hra1 t5 t8 hn g2 (by omega) (fun i hi => hby i (by rw [hn]; split <;> omega))
  have hst2 : hst b.1 ≤ 2000000000 := by omega
  obtain ⟨-, -, ⟨x, l', s3, s4, s5⟩, -⟩ := rdN_sorted (cs0_ok hst2) _ g1
  refine ⟨m', o1, ⟨0, cs0 b.1, _, rfl, o2, o3.1, o3.2.2, hra1.2, o4, cs0_ok hst2, o5⟩, o3, o8, o9, o10, x, by rw [s3]; rfl, ?_, ?_⟩
  · rw [o4.1, s4]
  · rw [o4.2.2.1, s5]
theorem read_at {K : Kn} {m : Mem} {r β i : Nat} {b : Bk} (h : rdAt K m r β b i) (hr : rdS K m r) (hok : bkOk b) (hs : sndB b = true) {x : PtR} (hx : (ptsB b)[i + 1]? = some x) : ∃ m', F_X6_read K m r = some (0, m') ∧ rdAt K m' r β b (i + 1) ∧ rdS K m' r ∧ kpR r m m' ∧ gI m' (r + 1) 0 = nI x.1 ∧ gJ m' (r + 1) 2 = x.2.1 ∧ gI m' (r + 1) 10 = nI x.2.2.1 ∧ gI m' r 11 = nI x.2.2.2.1 ∧ gI m' r 12 = nI x.2.2.2.2 := by
  obtain ⟨p, c, l, h1, h2⟩ := h
  obtain ⟨p9, c9, hrs⟩ := snd_rs hs
  obtain ⟨g1, g2, g3, g4, g5, g6⟩ := rs_rd hok hrs
  have hlen := (List.getElem?_eq_some_iff.mp hx).1
  have hfa := rs_facts hok hrs
  obtain ⟨p', c', e1, hl⟩ := rdN_prefix _ g1 (i + 1) (by omega)
  obtain ⟨p'', c'', e0, -⟩ := rdN_prefix _ g1 i (by omega)
  rw [h1] at e0
  cases e0
  have e1' := e1
  unfold rdN at e1
  rw [h1] at e1
  dsimp only at e1
  obtain ⟨m', r1, r2, r3⟩ := read_ok h2
  by_cases hz : (rdP (fb b.1 (8 * (nB b - 14))) (8 * (nB b - 14)) c p).1 = 0
  · rw [if_pos hz] at e1
    have hlen2 := rdP_len (fb_lt b.1 (8 * (nB b - 14))) h2.2.2.2.2.2.1 hz
    rw [hz] at r1
    obtain ⟨i1, i2⟩ := Prod.mk.inj (Sum.inr.inj e1)
    obtain ⟨i2, i3⟩ := Prod.mk.inj i2
    obtain ⟨x1, x2, x3, x4, x5⟩ := r3 hz
    have hxe : x = ((rdP (fb b.1 (8 * (nB b - 14))) (8 * (nB b - 14)) c p).2.2.1.1, (rdP (fb b.1 (8 * (nB b - 14))) (8 * (nB b - 14)) c p).2.2.1.2.2.1, (rdP (fb b.1 (8 * (nB b - 14))) (8 * (nB b - 14)) c p).2.1 - p, (rdP (fb b.1 (8 * (nB b - 14))) (8 * (nB b - 14)) c p).2.2.2.1, (rdP (fb b.1 (8 * (nB b - 14))) (8 * (nB b - 14)) c p).2.2.2.2) := by
      have e2 : (ptsB b).take (i + 1) ++ [((rdP (fb b.1 (8 * (nB b - 14))) (8 * (nB b - 14)) c p).2.2.1.1, (rdP (fb b.1 (8 * (nB b - 14))) (8 * (nB b - 14)) c p).2.2.1.2.2.1, (rdP (fb b.1 (8 * (nB b - 14))) (8 * (nB b - 14)) c p).2.1 - p, (rdP (fb b.1 (8 * (nB b - 14))) (8 * (nB b - 14)) c p).2.2.2.1, (rdP (fb b.1 (8 * (nB b - 14))) (8 * (nB b - 14)) c p).2.2.2.2)] = (ptsB b).take (i + 1 + 1) := i3
      have e3 : ((ptsB b).take (i + 1 + 1))[i + 1]? = some x := by rw [List.getElem?_take_of_lt (by omega)]; exact hx
      rw [← e2, List.getElem?_append, if_neg (by simp; omega)] at e3
      simp at e3
      rw [show i + 1 - min (i + 1) (ptsB b).length = 0 by omega] at e3
      simp at e3
      exact e3.symm
    refine ⟨m', r1, ⟨_, _, _, e1', ?_⟩, ⟨(r2.2.2.2 0).trans hr.1, hr.2⟩, r2, ?_, ?_, ?_, ?_, ?_⟩
    · rw [← i1, ← i2]; exact x1
    · rw [x1.2.2.2.2.1.1, hxe]
    · rw [x1.2.2.2.2.1.2.2.1, hxe]
    · rw [x4, hxe, ← hlen2]
    · rw [x2, hxe]
    · rw [x3, hxe]
  · rw [if_neg hz] at e1; cases e1
theorem rdAt.on {p : Nat → Prop} {K : Kn} {m m' : Mem} {r β i : Nat} {b : Bk} (h : rdAt K m r β b i) (e : eqOn p m m') (h1 : p r) (h2 : p (r + 1)) (h3 : p β) : rdAt K m' r β b i := by
  obtain ⟨q, c, l, g1, t1, t2, t3, t4, t5, t6, t7⟩ := h
  exact ⟨q, c, l, g1, t1.on e h1 h3, (e.R h1).trans t2, t3, t4, t5.on e h2, t6, (e.I h1).trans t7⟩
theorem rdS.on {p : Nat → Prop} {K : Kn} {m m' : Mem} {r : Nat} (h : rdS K m r) (e : eqOn p m m') (h1 : p r) : rdS K m' r := ⟨(e.R h1).trans h.1, h.2⟩
