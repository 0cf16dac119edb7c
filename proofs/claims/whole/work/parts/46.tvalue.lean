/-! ===== the reader: value ===== -/
theorem reR.put {K : Kn} {m : Mem} {r β : Nat} {by_ : Nat → Nat} {pos lim : Nat} {s : Cs} (h : reR K m r β by_ pos lim s) {k : Nat} {v : Int32} (hk : 11 ≤ k) : reR K (sI m r k v) r β by_ pos lim s := by
  obtain ⟨h1, h2, h3, h4, h5, h6, h7⟩ := h
  exact ⟨h1.put ⟨by omega, by omega⟩, h2, h3, h4, h5.sI (by omega), h6, by rw [gI_sI_n (Or.inr (by omega))]; exact h7⟩
theorem reR.putJ {K : Kn} {m : Mem} {r β : Nat} {by_ : Nat → Nat} {pos lim : Nat} {s : Cs} (h : reR K m r β by_ pos lim s) {k : Nat} {v : Int64} : reR K (sJ m r k v) r β by_ pos lim s := by
  obtain ⟨h1, h2, h3, h4, h5, h6, h7⟩ := h
  exact ⟨h1.putJ, h2, h3, h4, h5.sJ (by omega), h6, h7⟩
theorem enR.put {K : Kn} {m : Mem} {r β : Nat} {by_ : Nat → Nat} {lim : Nat} (h : enR K m r β by_ lim) {k : Nat} {v : Int32} (hk : 11 ≤ k) : enR K (sI m r k v) r β by_ lim := by
  obtain ⟨⟨pos, h1⟩, h2, h3, ⟨s, h4, h5⟩, h6⟩ := h
  exact ⟨⟨pos, h1.put ⟨by omega, by omega⟩⟩, h2, h3, ⟨s, h4.sI (by omega), h5⟩, by rw [gI_sI_n (Or.inr (by omega))]; exact h6⟩
theorem enR.putJ {K : Kn} {m : Mem} {r β : Nat} {by_ : Nat → Nat} {lim : Nat} (h : enR K m r β by_ lim) {k : Nat} {v : Int64} : enR K (sJ m r k v) r β by_ lim := by
  obtain ⟨⟨pos, h1⟩, h2, h3, ⟨s, h4, h5⟩, h6⟩ := h
  exact ⟨⟨pos, h1.putJ⟩, h2, h3, ⟨s, h4.sJ (by omega), h5⟩, h6⟩
/-- the coder of the reader, whole -/
def sameC (r : Nat) (m m' : Mem) : Prop := (∀ k, gI m' (r + 1) k = gI m (r + 1) k) ∧ (∀ k, gJ m' (r + 1) k = gJ m (r + 1) k)
theorem kpR.co {r : Nat} {m m' : Mem} {s : Cs} (h : ∀ k, gI m' (r + 1) k = gI m (r + 1) k) (h' : ∀ k, gJ m' (r + 1) k = gJ m (r + 1) k) (hc : coR m (r + 1) s) : coR m' (r + 1) s := hc.congr (h _) (h _) (h' _) (h _) (h _)
theorem lshl_N {v t : Nat} (h : t < 64) : lshl (lN v) (nI t) = lN (v * 2 ^ t) := by unfold lshl; exact wb_shl v h
/-- what is left when a value was taken -/
def tvM (m : Mem) (r : Nat) (mis : Int32) (d : Int64) : Mem := sJ (sI m r 16 mis) r 15 d
theorem tv_e {K : Kn} {m m' : Mem} {r v w : Nat} {t : Int} (ht1 : -64 ≤ t) (ht2 : t < 64) (h : F_X6_takeBits K m r (nI w) = some (lN v, m')) (h14 : gI m' r 14 = iZ t) : f_X6_takeValue_130 K r m (nI w) = some (tvM m' r (if t < 0 then 1 else 0) (if t < 0 then 0 else lN (v * 2 ^ t.toNat))) := by
  unfold f_X6_takeValue_130
  rw [h, bind_e]
  simp only [bd_e]
  have c : (0 : Int32) ≤ gI m' r 14 ↔ 0 ≤ t := by
    rw [fa_le, h14, iZ_toInt (by omega) (by omega)]; rfl
  by_cases h0 : t < 0
  · rw [if_neg (fun z => absurd (c.mp z) (by omega)), if_pos h0, if_pos h0]
    unfold f_X6_takeValue_149 f_X6_takeValue_170
    rw [gd, if_pos (Or.inr rfl)]
    simp only [bd_e]
    rw [if_neg (by rw [gI_sI_s]; decide)]
    rfl
  · rw [if_pos (c.mpr (by omega)), if_neg h0, if_neg h0]
    unfold f_X6_takeValue_149 f_X6_takeValue_170
    rw [gd, if_pos (Or.inl rfl)]
    simp only [bd_e]
    rw [if_pos (by rw [gI_sI_s]), gI_sI_n (Or.inr (by decide)), h14]
    rw [show t = ((t.toNat : Nat) : Int) by omega, iZ_nat, lshl_N (by omega)]
    rfl
theorem tv_en {K : Kn} {m m' : Mem} {r w : Nat} {v : Int64} {β : Nat} {by_ : Nat → Nat} {lim : Nat} (h : F_X6_takeBits K m r (nI w) = some (v, m')) (he : enR K m' r β by_ lim) (hk : kpR r m m') : ∃ m2, f_X6_takeValue_130 K r m (nI w) = some m2 ∧ enR K m2 r β by_ lim ∧ kpR r m m2 := by
  have aux : ∀ mis : Int32, (mis = 0 ∨ mis = 1) → ∃ m2, f_X6_takeValue_149 K r m' v r mis = some m2 ∧ enR K m2 r β by_ lim ∧ kpR r m m2 := by
    intro mis hm
    unfold f_X6_takeValue_149 f_X6_takeValue_170
    rw [gd, if_pos hm]
    simp only [bd_e]
    split
    · exact ⟨_, rfl, (he.put (by omega)).putJ, hk.trans ((kpR_sI (by omega)).trans kpR_sJ)⟩
    · exact ⟨_, rfl, (he.put (by omega)).putJ, hk.trans ((kpR_sI (by omega)).trans kpR_sJ)⟩
  unfold f_X6_takeValue_130
  rw [h, bind_e]
  simp only [bd_e]
  split
  · exact aux 0 (Or.inl rfl)
  · exact aux 1 (Or.inr rfl)
/-- the value's bits at the hand -/
theorem tv_ok {K : Kn} {m : Mem} {r β : Nat} {by_ : Nat → Nat} {p L w : Nat} {s : Cs} {t : Int} (h : reR K m r β by_ (112 + p) (112 + L) s) (hw : w ≤ 64) (ht1 : -64 ≤ t) (ht2 : t < 64) (h14 : gI m r 14 = iZ t) :
    (p + w ≤ L → f_X6_takeValue_130 K r m (nI w) = some (tvM (sI m r 8 (nI (112 + (p + w)))) r (if t < 0 then 1 else 0) (if t < 0 then 0 else lN (num (fb by_ L) p w * 2 ^ t.toNat))) ∧ reR K (tvM (sI m r 8 (nI (112 + (p + w)))) r (if t < 0 then 1 else 0) (if t < 0 then 0 else lN (num (fb by_ L) p w * 2 ^ t.toNat))) r β by_ (112 + (p + w)) (112 + L) s) ∧
    (L < p + w → ∃ m2, f_X6_takeValue_130 K r m (nI w) = some m2 ∧ enR K m2 r β by_ (112 + L) ∧ kpR r m m2) := by
  refine ⟨fun z => ?_, fun z => ?_⟩
  · obtain ⟨e, hr⟩ := re_take h hw (show 112 + p + w ≤ 112 + L by omega)
    rw [Nat.add_assoc] at e hr
    rw [num_fb (by omega)] at e
    exact ⟨tv_e ht1 ht2 e (by rw [gI_sI_n (Or.inr (by decide))]; exact h14), (hr.put (by omega)).putJ⟩
  · obtain ⟨e, hr⟩ := re_end h hw (show 112 + L < 112 + p + w by omega)
    exact tv_en e hr (kpR_sI (by omega))
theorem tv_ends {K : Kn} {m : Mem} {r β : Nat} {by_ : Nat → Nat} {lim w : Nat} (h : enR K m r β by_ lim) (hw : w ≤ 64) : ∃ m2, f_X6_takeValue_130 K r m (nI w) = some m2 ∧ enR K m2 r β by_ lim ∧ kpR r m m2 := by
  obtain ⟨v, m', e1, e2, e3, e4, -⟩ := en_tk h hw
  exact tv_en e1 e3 e4
/-- lead and tail of a coder's WINDOW -/
theorem co_win {m : Mem} {c : Nat} {s : Cs} (h : coR m c s) (hs : csOk s) : (s.2.2.2 = none ∧ gI m c 3 = -1 ∧ gI m c 4 = 0) ∨ (∃ l t, s.2.2.2 = some (l, t) ∧ gI m c 3 = nI l ∧ gI m c 4 = nI t ∧ l ≤ 31 ∧ l + t ≤ 63) := by
  obtain ⟨a, b, c', w⟩ := s
  obtain ⟨-, -, -, h4⟩ := h
  obtain ⟨-, -, h3⟩ := hs
  cases w with
  | none => exact Or.inl ⟨rfl, h4⟩
  | some q => exact Or.inr ⟨q.1, q.2, rfl, h4.1, h4.2, h3.1, h3.2⟩
