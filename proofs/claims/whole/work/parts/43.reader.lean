/-! ===== the reader reads a point ===== -/
/-- the reader r (its coder behind it) with a point ahead, its hand on bytes; not ended -/
def reR (K : Kn) (m : Mem) (r β : Nat) (by_ : Nat → Nat) (pos lim : Nat) (s : Cs) : Prop := tkR K m r β by_ pos lim ∧ gR m r 0 = some (r + 1) ∧ K (r + 1) = some (.inl 1) ∧ β ≠ r + 1 ∧ coR m (r + 1) s ∧ csOk s ∧ gI m r 10 = 0
/-- what a memory keeps, but for the reader and its coder -/
def offr (r : Nat) : Nat → Prop := fun a => a ≠ r ∧ a ≠ r + 1
/-- ended: the hand may stand anywhere -/
def enR (K : Kn) (m : Mem) (r β : Nat) (by_ : Nat → Nat) (lim : Nat) : Prop := (∃ pos, tkR K m r β by_ pos lim) ∧ gR m r 0 = some (r + 1) ∧ K (r + 1) = some (.inl 1) ∧ (∃ s, coR m (r + 1) s ∧ csOk s) ∧ gI m r 10 = 1
theorem tkR.put {K : Kn} {m : Mem} {r β : Nat} {by_ : Nat → Nat} {pos lim k : Nat} {v : Int32} (h : tkR K m r β by_ pos lim) (hk : k ≠ 8 ∧ k ≠ 9) : tkR K (sI m r k v) r β by_ pos lim := by
  obtain ⟨h1, h2, h3, h4, h5, h6, h7, h8⟩ := h
  exact ⟨h1, h2, h3, by rw [gI_sI_n (Or.inr (Ne.symm hk.1))]; exact h4, by rw [gI_sI_n (Or.inr (Ne.symm hk.2))]; exact h5, h6, h7, h8.sI h3⟩
theorem tkR.putJ {K : Kn} {m : Mem} {r β : Nat} {by_ : Nat → Nat} {pos lim k : Nat} {v : Int64} (h : tkR K m r β by_ pos lim) : tkR K (sJ m r k v) r β by_ pos lim := h
theorem coR.sI {m : Mem} {c a k : Nat} {v : Int32} {s : Cs} (h : coR m c s) (hc : c ≠ a) : coR (sI m a k v) c s := h.congr (gI_sI_n (Or.inl hc)) (gI_sI_n (Or.inl hc)) rfl (gI_sI_n (Or.inl hc)) (gI_sI_n (Or.inl hc))
theorem coR.sJ {m : Mem} {c a k : Nat} {v : Int64} {s : Cs} (h : coR m c s) (hc : c ≠ a) : coR (sJ m a k v) c s := h.congr rfl rfl (gJ_sJ_n (Or.inl hc)) rfl rfl
/-- taking bits: the value, and the reader then -/
theorem re_take {K : Kn} {m : Mem} {r β : Nat} {by_ : Nat → Nat} {pos lim : Nat} {s : Cs} (h : reR K m r β by_ pos lim s) {w : Nat} (hw : w ≤ 64) (hp : pos + w ≤ lim) : F_X6_takeBits K m r (nI w) = some (lN (num (ab by_) pos w), sI m r 8 (nI (pos + w))) ∧ reR K (sI m r 8 (nI (pos + w))) r β by_ (pos + w) lim s := by
  obtain ⟨h1, h2, h3, h4, h5, h6, h7⟩ := h
  exact ⟨take_ok h1 hw hp, h1.at hp, h2, h3, h4, h5.sI (by omega), h6, by rw [gI_sI_n (Or.inr (by decide))]; exact h7⟩
theorem re_end {K : Kn} {m : Mem} {r β : Nat} {by_ : Nat → Nat} {pos lim : Nat} {s : Cs} (h : reR K m r β by_ pos lim s) {w : Nat} (hw : w ≤ 64) (hp : lim < pos + w) : F_X6_takeBits K m r (nI w) = some (0, sI m r 10 1) ∧ enR K (sI m r 10 1) r β by_ lim := by
  obtain ⟨h1, h2, h3, h4, h5, h6, h7⟩ := h
  exact ⟨take_no h1 hw hp, ⟨pos, h1.put (by decide)⟩, h2, h3, ⟨s, h5.sI (by omega), h6⟩, gI_sI_s⟩
/-- once it has ended, bits that are taken change nothing but the hand -/
theorem en_take {K : Kn} {m : Mem} {r β : Nat} {by_ : Nat → Nat} {lim : Nat} (h : enR K m r β by_ lim) {w : Nat} (hw : w ≤ 64) : ∃ v m', F_X6_takeBits K m r (nI w) = some (lN v, m') ∧ v < 2 ^ w ∧ enR K m' r β by_ lim ∧ eqOn (offr r) m m' ∧ szm m' = szm m ∧ (∀ k, k ≠ 8 → k ≠ 10 → gI m' r k = gI m r k) := by
  obtain ⟨⟨pos, h1⟩, h2, h3, ⟨s, h4, h5⟩, h6⟩ := h
  by_cases hp : pos + w ≤ lim
  · refine ⟨_, _, take_ok h1 hw hp, num_lt (ab_lt by_) _ _, ⟨⟨_, h1.at hp⟩, h2, h3, ⟨s, h4.sI (by omega), h5⟩, by rw [gI_sI_n (Or.inr (by decide))]; exact h6⟩, eqOn_sI (fun z => z.1 rfl), rfl, fun k h8 _ => gI_sI_n (Or.inr h8)⟩
  · refine ⟨0, _, take_no h1 hw (by omega), Nat.two_pow_pos _, ⟨⟨pos, h1.put (by decide)⟩, h2, h3, ⟨s, h4.sI (by omega), h5⟩, gI_sI_s⟩, eqOn_sI (fun z => z.1 rfl), rfl, fun k _ h10 => gI_sI_n (Or.inr h10)⟩
