/-! ===== class and reference side by side ===== -/
theorem RX.on {p : Nat → Prop} {K : Kn} {m m' : Mem} {B : Nat} {s : St} (hok : stOk s) (h : RX K m B s) (e : eqOn p m m') (hp : insr B 205 p) : RX K m' B s := by
  obtain ⟨h1, h2, h3, h4, sa, ⟨a1, a2, a3, a4⟩, h5, π, h6⟩ := h
  have ea : ∀ j, j < 5 → insr (sa j) 38 p := fun j hj q g1 g2 => by
    obtain ⟨i, hi, hsa⟩ := a1 j hj
    exact hp q (by omega) (by omega)
  have eB : ∀ k, k < 205 → p (B + k) := fun k hk => hp _ (by omega) (by omega)
  have e0 : p B := eB 0 (by omega)
  refine ⟨h1, ?_, ?_, ?_, sa, ⟨a1, a2, fun j hj => (e.R (eB 1 (by omega))).trans (a3 j hj), (e.R e0).trans a4⟩, fun j hj => (h5 j hj).on (fun S hS => hok.1 j S hS) e (ea j (by omega)), π, h6.on e (ea 4 (by omega))⟩
  · obtain ⟨r1, r2, r3, r4, r5, r6, r7, r8⟩ := h2
    exact ⟨(e.R e0).trans r1, (e.R e0).trans r2, (e.R e0).trans r3, (e.R e0).trans r4, (e.R e0).trans r5, (e.R e0).trans r6, (e.R e0).trans r7, (e.R e0).trans r8⟩
  · obtain ⟨t1, t2, t3, t4, t5, t6⟩ := h3
    exact ⟨t1.on e (eB 199 (by omega)), t2.on e (eB 192 (by omega)), t3.on e (eB 195 (by omega)), (e.R (eB 198 (by omega))).trans t4, (e.R (eB 198 (by omega))).trans t5, (e.R (eB 202 (by omega))).trans t6⟩
  · obtain ⟨t1, t2, t3⟩ := h4
    exact ⟨(e.R (eB 203 (by omega))).trans t1, (e.I (eB 203 (by omega))).trans t2, fun i hi => (e.I (eB 204 (by omega))).trans (t3 i hi)⟩
theorem RM.on {p : Nat → Prop} {K : Kn} {m m' : Mem} {A : Nat} {s : St} (h : RM K m A s) (e : eqOn p m m') (hp : insr A 24 p) : RM K m' A s := by
  obtain ⟨⟨h1, r1, r2, r3, r4⟩, h2, h3, h4, h5⟩ := h
  have eB : ∀ k, k < 24 → p (A + k) := fun k hk => hp _ (by omega) (by omega)
  have e0 : p A := eB 0 (by omega)
  refine ⟨⟨h1, fun k hk => (e.R e0).trans (r1 k hk), fun k hk => (e.R e0).trans (r2 k hk), fun k hk => (e.R e0).trans (r3 k hk), fun k hk => (e.R e0).trans (r4 k hk)⟩, ?_, (e.I e0).trans h3, fun i hi => (e.I (eB 13 (by omega))).trans (h4 i hi), ?_⟩
  · intro j hj
    have := h2 j hj
    cases hs : s.1 j with
    | none => rw [hs] at this; exact (e.I (eB 1 (by omega))).trans this
    | some S =>
      rw [hs] at this
      obtain ⟨q1, q2, q3, q4, L, q5, q6, q7⟩ := this
      refine ⟨(e.I (eB 1 (by omega))).trans q1, (e.I (eB 2 (by omega))).trans q2, (e.I (eB 3 (by omega))).trans q3, ?_, L, q5, (e.I (eB 10 (by omega))).trans q6, fun i x hx => ⟨(e.I (eB 11 (by omega))).trans (q7 i x hx).1, (e.J (eB 12 (by omega))).trans (q7 i x hx).2⟩⟩
      intro k b hb
      obtain ⟨b1, b2, b3, b4, b5⟩ := q4 k b hb
      exact ⟨fun i hi => (e.I (eB 4 (by omega))).trans (b1 i hi), (e.I (eB 5 (by omega))).trans b2, (e.I (eB 7 (by omega))).trans b3, fun hb => ⟨(e.I (eB 8 (by omega))).trans (b4 hb).1, (e.I (eB 9 (by omega))).trans (b4 hb).2⟩, fun hb p c l hr => (e.I (eB 6 (by omega))).trans (b5 hb p c l hr)⟩
  · intro q hq
    rw [e.I (eB 7 (by omega))]; exact h5 q hq
/-- both stand for one state -/
def IV (K : Kn) (m : Mem) (B : Nat) (s : St) : Prop := stOk s ∧ RX K m B s ∧ RM K m (B + 205) s ∧ B + 229 ≤ szm m ∧ ∀ q, B + 229 ≤ q → K q = none
theorem IV.both {α : Type} {K : Kn} {m : Mem} {B : Nat} {s s' : St} {F : Option (α × Mem)} {G : Mem → Option (α × Mem)} {ans : α} (h : IV K m B s) (hX : okX K m B F ans s') (hM : ∀ m1, RM K m1 (B + 205) s → okM K m1 (B + 205) (G m1) ans s') (hst : stOk s') : ∃ m1 m2, F = some (ans, m1) ∧ G m1 = some (ans, m2) ∧ IV K m2 B s' := by
  obtain ⟨i1, i2, i3, i4, i5⟩ := h
  obtain ⟨m1, e1, e2, e3, e4⟩ := hX
  have hm := i3.on e3 (fun q h1 h2 => Or.inr (by omega))
  obtain ⟨m2, g1, g2, g3, g4⟩ := hM m1 hm
  exact ⟨m1, m2, e1, g1, hst, e2.on hst g3 (fun q h1 h2 => Or.inl (by omega)), g2, by omega, i5⟩
theorem IV.one {α : Type} {K : Kn} {m : Mem} {B : Nat} {s : St} {G : Option (α × Mem)} {ans : α} (h : IV K m B s) (hM : okM K m (B + 205) G ans s) : ∃ m2, G = some (ans, m2) ∧ IV K m2 B s := by
  obtain ⟨i1, i2, i3, i4, i5⟩ := h
  obtain ⟨m2, g1, g2, g3, g4⟩ := hM
  exact ⟨m2, g1, i1, i2.on i1 g3 (fun q h1 h2 => Or.inl (by omega)), g2, by omega, i5⟩
theorem IV.feed {K : Kn} {m : Mem} {B : Nat} {s : St} (h : IV K m B s) (a b c d e : Int32) : ∃ m1 m2, F_X8_feed K m B a b c d e = some ((nFeed s a b c d e).1, m1) ∧ F_X9_feed K m1 (B + 205) a b c d e = some ((nFeed s a b c d e).1, m2) ∧ IV K m2 B (nFeed s a b c d e).2 := by
  obtain ⟨i1, i2, i3, i4, i5⟩ := h
  obtain ⟨m1, e1, e2, e3, e4⟩ := feed_ok i1 i2 a b c d e
  have hm := i3.on e3 (fun q h1 h2 => Or.inr (by omega))
  obtain ⟨m2, g1, g2, g3, g4⟩ := mfeed_ok i1 hm (i5 _ (by omega)) (by omega) a b c d e
  exact ⟨m1, m2, e1, g1, feed_st i1 a b c d e, e2.on (feed_st i1 a b c d e) g3 (fun q h1 h2 => ⟨Or.inl (by omega), by omega⟩), g2, by omega, i5⟩
theorem lg_self (x : Int64) : lg_cmp x x = 0 := by
  unfold lg_cmp
  rw [if_neg (fun z => Int64.lt_irrefl z), if_pos rfl]
/-- a script's row stands -/
def gds (sL : Nat) (x : Int32) : Prop := inb (x + (1 : Int32)) sL = true ∧ inb (x + (2 : Int32)) sL = true ∧ inb (x + (3 : Int32)) sL = true ∧ inb (x + (4 : Int32)) sL = true ∧ inb (x + (5 : Int32)) sL = true
