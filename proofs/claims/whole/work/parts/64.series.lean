/-! ===== a series ===== -/
/-- ROOM, LAST (-1: none), LATE points by stamps, blocks -/
abbrev Sr : Type := Nat × Int × List Pt × List Bk
def KS (K : Kn) (a : Nat) : Prop := K a = some (.inl 6) ∧ K (a + 1) = some (.inr (4, 16)) ∧ K (a + 2) = some (.inl 4) ∧ K (a + 3) = some (.inr (0, 20)) ∧ K (a + 4) = some (.inr (1, 20)) ∧ K (a + 5) = some (.inl 1) ∧ ∀ j, j < 16 → K (a + 6 + 2 * j) = some (.inl 0) ∧ K (a + 6 + 2 * j + 1) = some (.inr (0, 200))
/-- the shape of a series at a; π: where its blocks are -/
def seS (K : Kn) (m : Mem) (a : Nat) (π : Nat → Nat) : Prop := KS K a ∧ gR m a 0 = some (a + 1) ∧ gR m a 1 = some (a + 2) ∧ gR m a 2 = some (a + 5) ∧ gR m (a + 2) 0 = some (a + 3) ∧ gR m (a + 2) 1 = some (a + 4) ∧ (∀ k, k < 16 → π k < 16 ∧ gR m (a + 1) k = some (a + 6 + 2 * π k)) ∧ (∀ k k', k < 16 → k' < 16 → π k = π k' → k = k') ∧ ∀ j, j < 16 → gR m (a + 6 + 2 * j) 0 = some (a + 6 + 2 * j + 1)
def insr (a n : Nat) (p : Nat → Prop) : Prop := ∀ q, a ≤ q → q < a + n → p q
theorem seS.on {p : Nat → Prop} {K : Kn} {m m' : Mem} {a : Nat} {π : Nat → Nat} (h : seS K m a π) (e : eqOn p m m') (hp : insr a 38 p) : seS K m' a π := by
  obtain ⟨h1, h2, h3, h4, h5, h6, h7, h8, h9⟩ := h
  refine ⟨h1, (e.R (hp _ (by omega) (by omega))).trans h2, (e.R (hp _ (by omega) (by omega))).trans h3, (e.R (hp _ (by omega) (by omega))).trans h4, (e.R (hp _ (by omega) (by omega))).trans h5, (e.R (hp _ (by omega) (by omega))).trans h6, fun k hk => ⟨(h7 k hk).1, (e.R (hp _ (by omega) (by omega))).trans (h7 k hk).2⟩, h8, fun j hj => (e.R (hp _ (by omega) (by omega))).trans (h9 j hj)⟩
/-- references alone are asked -/
theorem seS.onR {K : Kn} {m m' : Mem} {a : Nat} {π : Nat → Nat} (h : seS K m a π) (e : ∀ q k, a ≤ q → q < a + 38 → gR m' q k = gR m q k) : seS K m' a π := by
  obtain ⟨h1, h2, h3, h4, h5, h6, h7, h8, h9⟩ := h
  refine ⟨h1, (e _ _ (by omega) (by omega)).trans h2, (e _ _ (by omega) (by omega)).trans h3, (e _ _ (by omega) (by omega)).trans h4, (e _ _ (by omega) (by omega)).trans h5, (e _ _ (by omega) (by omega)).trans h6, fun k hk => ⟨(h7 k hk).1, (e _ _ (by omega) (by omega)).trans (h7 k hk).2⟩, h8, fun j hj => (e _ _ (by omega) (by omega)).trans (h9 j hj)⟩
def seD (K : Kn) (m : Mem) (a : Nat) (π : Nat → Nat) (S : Sr) : Prop := gI m a 6 = 1 ∧ gI m a 4 = nI S.1 ∧ gI m a 5 = iZ S.2.1 ∧ gI m a 3 = nI S.2.2.2.length ∧ ptR K m (a + 2) 20 S.2.2.1 ∧ (∀ (k : Nat) (b : Bk), S.2.2.2[k]? = some b → bkR K m (a + 6 + 2 * π k) b) ∧ ∀ (b : Bk) (p : Nat) (c : Cs) (l : List PtR), S.2.2.2.getLast? = some b → b.2.2.1 = false → rsB b = .inr (p, c, l) → coR m (a + 5) c
def seR (K : Kn) (m : Mem) (a : Nat) (S : Sr) : Prop := ∃ π, seS K m a π ∧ seD K m a π S
/-- what holds of every series -/
def srOk (S : Sr) : Prop := 24 ≤ S.1 ∧ S.1 ≤ 200 ∧ -1 ≤ S.2.1 ∧ S.2.1 ≤ 2000000000 ∧ S.2.2.1.length ≤ 20 ∧ S.2.2.1.Pairwise (fun x y => x.1 < y.1) ∧ (∀ q ∈ S.2.2.1, (q.1 : Int) ≤ S.2.1) ∧ S.2.2.2.length ≤ 16 ∧ (∀ b ∈ S.2.2.2, bkOk b ∧ (b.2.2.2.2 : Int) ≤ S.2.1) ∧ S.2.2.2.Pairwise (fun x y => x.2.2.1 = true ∧ x.2.2.2.2 < y.2.2.2.1)
theorem seD.on {p : Nat → Prop} {K : Kn} {m m' : Mem} {a : Nat} {π : Nat → Nat} {S : Sr} (hl : S.2.2.2.length ≤ 16) (hs : seS K m a π) (h : seD K m a π S) (e : eqOn p m m') (hp : insr a 38 p) : seD K m' a π S := by
  obtain ⟨h1, h2, h3, h4, h5, h6, h7⟩ := h
  have pa : p a := hp _ (by omega) (by omega)
  refine ⟨(e.I pa).trans h1, (e.I pa).trans h2, (e.I pa).trans h3, (e.I pa).trans h4, h5.on e (hp _ (by omega) (by omega)) (hp _ (by omega) (by omega)) (hp _ (by omega) (by omega)), fun k b hk => ?_, fun b p' c l g1 g2 g3 => (h7 b p' c l g1 g2 g3).on e (hp _ (by omega) (by omega))⟩
  have hk16 : k < 16 := by have := (List.getElem?_eq_some_iff.mp hk).1; omega
  have := (hs.2.2.2.2.2.2.1 k hk16).1
  exact (h6 k b hk).on e (hp _ (by omega) (by omega)) (hp _ (by omega) (by omega))
theorem seR.on {p : Nat → Prop} {K : Kn} {m m' : Mem} {a : Nat} {S : Sr} (hl : S.2.2.2.length ≤ 16) (h : seR K m a S) (e : eqOn p m m') (hp : insr a 38 p) : seR K m' a S := by
  obtain ⟨π, h1, h2⟩ := h
  exact ⟨π, h1.on e hp, h2.on hl h1 e hp⟩
theorem seS.blk {K : Kn} {m : Mem} {a : Nat} {π : Nat → Nat} (h : seS K m a π) {k : Nat} (hk : k < 16) : ldA K m a 0 4 = some (a + 1) ∧ alO K m (a + 1) (nI k) 0 = some (a + 6 + 2 * π k) := by
  obtain ⟨h1, h2, h3, h4, h5, h6, h7, h8, h9⟩ := h
  exact ⟨ldA_n h2 h1.2.1, alO_n (lenK_of h1.2.1) hk (by omega) (h7 k hk).2 (h1.2.2.2.2.2.2 _ (h7 k hk).1).1⟩
theorem last_cases (bl : List Bk) : bl = [] ∨ ∃ bl0 b, bl = bl0 ++ [b] := by
  rcases List.eq_nil_or_concat bl with h | ⟨l, b, h⟩
  · exact Or.inl h
  · exact Or.inr ⟨l, b, by rw [h, List.concat_eq_append]⟩
theorem get_last (bl0 : List Bk) (b : Bk) : (bl0 ++ [b])[bl0.length]? = some b := by simp
/-- the open block's bits and its point ahead -/
def opA (bl : List Bk) : Option (Nat × Cs) := match bl.getLast? with
  | none => none
  | some b => if b.2.2.1 = true then none else match rsB b with
    | .inl _ => none
    | .inr r => some (r.1, r.2.1)
theorem opA_nil : opA [] = none := rfl
theorem opA_t {bl0 : List Bk} {b : Bk} (h : b.2.2.1 = true) : opA (bl0 ++ [b]) = none := by
  unfold opA
  rw [List.getLast?_concat]
  simp [h]
theorem opA_f {bl0 : List Bk} {b : Bk} {p : Nat} {c : Cs} {l : List PtR} (h : b.2.2.1 = false) (hr : rsB b = .inr (p, c, l)) : opA (bl0 ++ [b]) = some (p, c) := by
  unfold opA
  rw [List.getLast?_concat]
  simp [h, hr]
theorem ok_open {b : Bk} (h : bkOk b) (hs : b.2.2.1 = false) : ∃ p c l, rsB b = .inr (p, c, l) ∧ opn b.1 b.2.1 p c l := by
  obtain ⟨g1, p, c, l, g2, g3, g4⟩ := h.2.2.2.2.1 hs
  exact ⟨p, c, l, opn_rs hs g2, g2⟩
theorem openBlock_ok {K : Kn} {m : Mem} {a : Nat} {π : Nat → Nat} {S : Sr} (hs : seS K m a π) (h : seD K m a π S) (hl : S.2.2.2.length ≤ 16) : F_X7_openBlock K m a = some (match S.2.2.2.getLast? with
    | none => none
    | some b => if b.2.2.1 = true then none else some (a + 6 + 2 * π (S.2.2.2.length - 1))) := by
  obtain ⟨h1, h2, h3, h4, h5, h6, h7⟩ := h
  unfold F_X7_openBlock f_X7_openBlock f_X7_openBlock_38
  rw [h4]
  rcases last_cases S.2.2.2 with hb | ⟨bl0, b, hb⟩
  · rw [hb]; rfl
  · have hlen : S.2.2.2.length = bl0.length + 1 := by rw [hb]; simp
    rw [if_neg (nI_nle (by omega) (by omega)), show nI S.2.2.2.length - (1 : Int32) = nI (S.2.2.2.length - 1) from pk_sub (b := 1) (by omega)]
    obtain ⟨e1, e2⟩ := hs.blk (k := S.2.2.2.length - 1) (by omega)
    have hbk := h6 (S.2.2.2.length - 1) b (by rw [hlen, hb, Nat.add_sub_cancel]; exact get_last bl0 b)
    simp only [e1, e2, bind_e]
    rw [hbk.2.2.2.2.2.2.2.1]
    have : S.2.2.2.getLast? = some b := by rw [hb, List.getLast?_concat]
    rw [this]
    cases hse : b.2.2.1 with
    | false => simp [hse]
    | true => simp [hse]
