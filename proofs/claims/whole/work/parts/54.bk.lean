/-! ===== blocks as they are thought of ===== -/
/-- a block: bytes, how many, sealed, the first and the last stamp that are kept of it -/
abbrev Bk : Type := (Nat → Nat) × Nat × Bool × Nat × Nat
/-- bytes that hold points -/
def nB (b : Bk) : Nat := if b.2.2.1 = true then b.2.1 - 1 else b.2.1
/-- what is read of a block -/
def rsB (b : Bk) : (Nat × Int) ⊕ (Nat × Cs × List PtR) := if b.2.2.1 = true then exK b.1 b.2.1 b.2.2.2.1 b.2.2.2.2 else
  match rdN (fb b.1 (8 * (b.2.1 - 14))) (8 * (b.2.1 - 14)) (cs0 b.1) (hct b.1 - 1) with
  | .inl e => .inl (e.1, (e.2 : Int))
  | .inr r => .inr r
/-- an open block's bytes, up to the bit p, tell these points; 0s follow -/
def opn (by_ : Nat → Nat) (size p : Nat) (c : Cs) (l : List PtR) : Prop := rdN (fb by_ p) p (cs0 by_) (hct by_ - 1) = .inr (p, c, l) ∧ size = 14 + (p + 7) / 8 ∧ num (ab by_) (112 + p) (8 * (size - 14) - p) = 0 ∧ 1 ≤ hct by_ ∧ hst by_ ≤ 2000000000 ∧ csOk c
/-- what holds of every block -/
def bkOk (b : Bk) : Prop := (∀ i, i < b.2.1 → b.1 i < 256) ∧ 14 ≤ b.2.1 ∧ b.2.1 ≤ 200 ∧ (b.2.2.1 = true → 15 ≤ b.2.1) ∧ (b.2.2.1 = false → b.2.1 ≤ 199 ∧ ∃ p c l, opn b.1 b.2.1 p c l ∧ hst b.1 = b.2.2.2.1 ∧ c.1 = b.2.2.2.2) ∧ b.2.2.2.1 ≤ b.2.2.2.2 ∧ b.2.2.2.2 ≤ 2000000000
theorem cs0_ok {by_ : Nat → Nat} (h : hst by_ ≤ 2000000000) : csOk (cs0 by_) := ⟨h, Nat.zero_le _, trivial⟩
theorem opn_rd {by_ : Nat → Nat} {size p : Nat} {c : Cs} {l : List PtR} (h : opn by_ size p c l) : rdN (fb by_ (8 * (size - 14))) (8 * (size - 14)) (cs0 by_) (hct by_ - 1) = .inr (p, c, l) := by
  obtain ⟨h1, h2, -⟩ := h
  refine rdN_mono (show p ≤ _ by omega) (fun q hq => ?_) _ h1
  rw [fb_in hq, fb_in (by omega)]
theorem opn_rs {b : Bk} {p : Nat} {c : Cs} {l : List PtR} (hs : b.2.2.1 = false) (h : opn b.1 b.2.1 p c l) : rsB b = .inr (p, c, l) := by
  unfold rsB
  rw [if_neg (by rw [hs]; decide), opn_rd h]
theorem opn_len {by_ : Nat → Nat} {size p : Nat} {c : Cs} {l : List PtR} (h : opn by_ size p c l) : l.length = hct by_ := by
  have := (rdN_facts (cs0_ok h.2.2.2.2.1) _ h.1).2.1
  have := h.2.2.2.1
  omega
/-- the class's block at an address, its bytes behind it -/
def bkR (K : Kn) (m : Mem) (a : Nat) (b : Bk) : Prop := gR m a 0 = some (a + 1) ∧ K a = some (.inl 0) ∧ K (a + 1) = some (.inr (0, 200)) ∧ (∀ i, i < b.2.1 → gI m (a + 1) i = nI (b.1 i)) ∧ gI m a 1 = nI b.2.1 ∧ gI m a 4 = nI b.2.2.2.1 ∧ gI m a 5 = nI b.2.2.2.2 ∧ gI m a 6 = (if b.2.2.1 = true then 1 else 0) ∧
  (match rsB b with
  | .inl e => gI m a 7 = nI e.1 ∧ gI m a 8 = iZ e.2
  | .inr r => gI m a 7 = 0 ∧ gI m a 8 = iZ (-1) ∧ gI m a 2 = nI r.1 ∧ gI m a 3 = nI r.2.2.length)
def off (a n : Nat) : Nat → Prop := fun q => q < a ∨ a + n ≤ q
theorem bkR.on {p : Nat → Prop} {K : Kn} {m m' : Mem} {a : Nat} {b : Bk} (h : bkR K m a b) (e : eqOn p m m') (h1 : p a) (h2 : p (a + 1)) : bkR K m' a b := by
  obtain ⟨t1, t2, t3, t4, t5, t6, t7, t8, t9⟩ := h
  refine ⟨(e.R h1).trans t1, t2, t3, fun i hi => (e.I h2).trans (t4 i hi), (e.I h1).trans t5, (e.I h1).trans t6, (e.I h1).trans t7, (e.I h1).trans t8, ?_⟩
  rw [e.I h1, e.I h1, e.I h1, e.I h1]
  exact t9
theorem bkR.by {K : Kn} {m : Mem} {a : Nat} {b : Bk} (h : bkR K m a b) (hb : bkOk b) : byR m (a + 1) b.1 b.2.1 := fun i hi => ⟨h.2.2.2.1 i hi, hb.1 i hi⟩
