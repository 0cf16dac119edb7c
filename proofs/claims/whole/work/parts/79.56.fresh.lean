/-! ===== objects made anew ===== -/
/-- cells from n on are free -/
def frh (K : Kn) (m : Mem) (n : Nat) : Prop := szm m = n ∧ ∀ q, n ≤ q → K q = none
/-- what is there stays, but for the object at B, whose first f references stay -/
def gwf (B f : Nat) (K : Kn) (m : Mem) (K' : Kn) (m' : Mem) : Prop := szm m ≤ szm m' ∧ (∀ q, q < szm m → K' q = K q) ∧ eqOn (fun q => q < szm m ∧ q ≠ B) m m' ∧ (∀ k, k < f → gR m' B k = gR m B k) ∧ ∀ k, k ≠ 3 → k ≠ 5 → k ≠ 8 → gI m' B k = gI m B k
theorem gwf.refl {B f : Nat} {K : Kn} {m : Mem} : gwf B f K m K m := ⟨Nat.le_refl _, fun _ _ => rfl, eqOn.refl m, fun _ _ => rfl, fun _ _ _ _ => rfl⟩
theorem gwf.trans {B f f' : Nat} {K K1 K2 : Kn} {m m1 m2 : Mem} (h : gwf B f K m K1 m1) (h' : gwf B f' K1 m1 K2 m2) (hf : f ≤ f') : gwf B f K m K2 m2 := by
  obtain ⟨a1, a2, a3, a4, a5⟩ := h
  obtain ⟨b1, b2, b3, b4, b5⟩ := h'
  exact ⟨by omega, fun q hq => (b2 q (by omega)).trans (a2 q hq), a3.trans (b3.mono (fun q hq => ⟨by omega, hq.2⟩)), fun k hk => (b4 k (by omega)).trans (a4 k hk), fun k h1 h2 h3 => (b5 k h1 h2 h3).trans (a5 k h1 h2 h3)⟩
/-- work at another object, made later -/
theorem gwf.sub {B f a g : Nat} {K K1 K2 : Kn} {m m1 m2 : Mem} (h : gwf B f K m K1 m1) (h' : gwf a g K1 m1 K2 m2) (ha : szm m ≤ a) (hB : B < szm m) : gwf B f K m K2 m2 := by
  obtain ⟨a1, a2, a3, a4, a5⟩ := h
  obtain ⟨b1, b2, b3, b4, b5⟩ := h'
  refine ⟨by omega, fun q hq => (b2 q (by omega)).trans (a2 q hq), a3.trans (b3.mono (fun q hq => ⟨by omega, by omega⟩)), fun k hk => (b3.R ⟨by omega, by omega⟩).trans (a4 k hk), fun k h1 h2 h3 => (b3.I ⟨by omega, by omega⟩).trans (a5 k h1 h2 h3)⟩
theorem gwf.R {B f : Nat} {K K' : Kn} {m m' : Mem} (h : gwf B f K m K' m') {a k : Nat} (h1 : a < szm m) (h2 : a ≠ B) : gR m' a k = gR m a k := h.2.2.1.R ⟨h1, h2⟩
theorem gwf.I {B f : Nat} {K K' : Kn} {m m' : Mem} (h : gwf B f K m K' m') {a k : Nat} (h1 : a < szm m) (h2 : a ≠ B) : gI m' a k = gI m a k := h.2.2.1.I ⟨h1, h2⟩
def pos (F : Option (Kn × Mem)) (Q : Kn → Mem → Prop) : Prop := ∃ K m, F = some (K, m) ∧ Q K m
theorem pos_some {K : Kn} {m : Mem} {Q : Kn → Mem → Prop} (h : Q K m) : pos (some (K, m)) Q := ⟨K, m, rfl, h⟩
theorem pos_bind {α : Type} {F : Option α} {x : α} {cont : α → Option (Kn × Mem)} {Q : Kn → Mem → Prop} (e : F = some x) (hc : pos (cont x) Q) : pos (F.bind cont) Q := by rw [e]; exact hc
theorem frh.new {K : Kn} {m : Mem} {n : Nat} (h : frh K m n) (k : Kd) : frh (upK K n k) (bump m) (n + 1) ∧ upK K n k n = some k ∧ (∀ B f, B < n → gwf B f K m (upK K n k) (bump m)) ∧ ∀ j, gI (bump m) n j = 0 := by
  obtain ⟨h1, h2⟩ := h
  have hk : ∀ q, q ≠ n → upK K n k q = K q := fun q hq => by
    unfold upK
    cases K q with
    | none => dsimp only; rw [if_neg hq]
    | some x => rfl
  have e : ∀ q, q ≠ n → ∀ j, gI (bump m) q j = gI m q j ∧ gJ (bump m) q j = gJ m q j ∧ gR (bump m) q j = gR m q j := fun q hq j => by
    have hq : q ≠ m.1 := fun z => hq (z.trans h1)
    refine ⟨?_, ?_, ?_⟩
    · show (if q = m.1 then (0 : Int32) else m.2.1 q j) = _
      rw [if_neg hq]; rfl
    · show (if q = m.1 then (0 : Int64) else m.2.2.1 q j) = _
      rw [if_neg hq]; rfl
    · show (if q = m.1 then (none : Option Nat) else m.2.2.2 q j) = _
      rw [if_neg hq]; rfl
  refine ⟨⟨?_, fun q hq => ?_⟩, upK_new (h2 n (Nat.le_refl _)), fun B f hB => ⟨?_, fun q hq => hk q (by omega), fun q hq j => e q (by omega) j, fun j _ => (e B (by omega) j).2.2, fun j _ _ _ => (e B (by omega) j).1⟩, fun j => ?_⟩
  · show m.1 + 1 = n + 1
    rw [← h1]; rfl
  · rw [hk q (by omega)]; exact h2 q (by omega)
  · show szm m ≤ m.1 + 1
    exact Nat.le_succ _
  · show (if n = m.1 then (0 : Int32) else m.2.1 n j) = 0
    rw [if_pos (show n = m.1 from h1.symm)]
theorem frh.ref {K : Kn} {m : Mem} {n : Nat} (h : frh K m n) (B f b : Nat) : frh K (sR m B f (some b)) n ∧ gwf B f K m K (sR m B f (some b)) ∧ gR (sR m B f (some b)) B f = some b := by
  refine ⟨h, ⟨Nat.le_refl _, fun _ _ => rfl, eqOn_sR (fun z => z.2 rfl), fun k hk => gR_sR_n (Or.inr (by omega)), fun _ _ _ _ => rfl⟩, ?_⟩
  show (if B = B ∧ f = f then some b else _) = some b
  rw [if_pos ⟨rfl, rfl⟩]
/-- a whole number set, at a place that is not looked at -/
theorem frh.int {K : Kn} {m : Mem} {n : Nat} (h : frh K m n) (B f k : Nat) (hk : k = 3 ∨ k = 5 ∨ k = 8) (v : Int32) : frh K (sI m B k v) n ∧ gwf B f K m K (sI m B k v) :=
  ⟨h, Nat.le_refl _, fun _ _ => rfl, eqOn_sI (fun z => z.2 rfl), fun _ _ => rfl, fun j h1 h2 h3 => gI_sI_n (Or.inr (by omega))⟩
theorem pos_nw {K : Kn} {m : Mem} {n : Nat} (h : frh K m n) {k : Kd} {cont : Nat → Kn → Mem → Option (Kn × Mem)} {Q : Kn → Mem → Prop} (hc : ∀ K' m', frh K' m' (n + 1) → K' n = some k → (∀ B f, B < n → gwf B f K m K' m') → (∀ j, gI m' n j = 0) → pos (cont n K' m') Q) : pos (bd (szm m) fun b => bd (upK K b k) fun K2 => bd (bump m) fun m3 => cont b K2 m3) Q := by
  show pos (cont (szm m) (upK K (szm m) k) (bump m)) Q
  rw [h.1]
  obtain ⟨h1, h2, h3, h4⟩ := h.new k
  exact hc _ _ h1 h2 h3 h4
theorem pos_sr {K : Kn} {m : Mem} {n : Nat} (h : frh K m n) {B f b : Nat} {cont : Mem → Option (Kn × Mem)} {Q : Kn → Mem → Prop} (hc : ∀ m', frh K m' n → gwf B f K m K m' → gR m' B f = some b → pos (cont m') Q) : pos (bd (sR m B f (some b)) cont) Q := by
  obtain ⟨h1, h2, h3⟩ := h.ref B f b
  exact hc _ h1 h2 h3
theorem block_new {K : Kn} {m : Mem} {n a : Nat} (h : frh K m n) (ha : a < n) : pos (F_X0_init K m a) (fun K' m' => frh K' m' (n + 1) ∧ gwf a 0 K m K' m' ∧ K' n = some (.inr (0, 200)) ∧ gR m' a 0 = some n) := by
  unfold F_X0_init f_X0_init
  refine pos_nw h (fun K1 m1 h1 k1 g1 z1 => ?_)
  refine pos_sr h1 (fun m2 h2 g2 r2 => ?_)
  obtain ⟨h3, g3⟩ := h2.int a 1 8 (Or.inr (Or.inr rfl)) (-1)
  exact pos_some ⟨h3, ((g1 a 0 ha).trans g2 (Nat.le_refl _)).trans g3 (Nat.zero_le _), k1, (g3.2.2.2.1 0 (by omega)).trans r2⟩
theorem points_new20 {K : Kn} {m : Mem} {n a : Nat} (h : frh K m n) (ha : a < n) : pos (F_X5_init_20 K m a) (fun K' m' => frh K' m' (n + 2) ∧ gwf a 0 K m K' m' ∧ K' n = some (.inr (0, 20)) ∧ K' (n + 1) = some (.inr (1, 20)) ∧ gR m' a 0 = some n ∧ gR m' a 1 = some (n + 1)) := by
  unfold F_X5_init_20 f_X5_init_20
  refine pos_nw h (fun K1 m1 h1 k1 g1 z1 => ?_)
  refine pos_sr h1 (fun m2 h2 g2 r2 => ?_)
  refine pos_nw h2 (fun K3 m3 h3 k3 g3 z3 => ?_)
  refine pos_sr h3 (fun m4 h4 g4 r4 => ?_)
  have g34 := (g3 a 1 (by omega)).trans g4 (Nat.le_refl _)
  have e2 := h2.1
  exact pos_some ⟨h4, ((g1 a 0 ha).trans g2 (Nat.le_refl _)).trans g34 (Nat.zero_le _), (g34.2.1 n (by omega)).trans k1, k3, (g34.2.2.2.1 0 (by omega)).trans r2, r4⟩
theorem points_new {K : Kn} {m : Mem} {n a : Nat} (h : frh K m n) (ha : a < n) : pos (F_X5_init_11812 K m a) (fun K' m' => frh K' m' (n + 2) ∧ gwf a 0 K m K' m' ∧ K' n = some (.inr (0, 11812)) ∧ K' (n + 1) = some (.inr (1, 11812)) ∧ gR m' a 0 = some n ∧ gR m' a 1 = some (n + 1)) := by
  unfold F_X5_init_11812 f_X5_init_11812
  refine pos_nw h (fun K1 m1 h1 k1 g1 z1 => ?_)
  refine pos_sr h1 (fun m2 h2 g2 r2 => ?_)
  refine pos_nw h2 (fun K3 m3 h3 k3 g3 z3 => ?_)
  refine pos_sr h3 (fun m4 h4 g4 r4 => ?_)
  have g34 := (g3 a 1 (by omega)).trans g4 (Nat.le_refl _)
  have e2 := h2.1
  exact pos_some ⟨h4, ((g1 a 0 ha).trans g2 (Nat.le_refl _)).trans g34 (Nat.zero_le _), (g34.2.1 n (by omega)).trans k1, k3, (g34.2.2.2.1 0 (by omega)).trans r2, r4⟩
theorem coder_new {K : Kn} {m : Mem} {n a : Nat} (h : frh K m n) : ∃ m', F_X1_init K m a = some m' ∧ frh K m' n ∧ gwf a 9 K m K m' := ⟨_, rfl, h.int a 9 3 (Or.inl rfl) (-1)⟩
theorem reader_new {K : Kn} {m : Mem} {n a : Nat} (h : frh K m n) (ha : a < n) : pos (F_X6_init K m a) (fun K' m' => frh K' m' (n + 1) ∧ gwf a 0 K m K' m' ∧ K' n = some (.inl 1) ∧ gR m' a 0 = some n) := by
  unfold F_X6_init f_X6_init
  refine pos_nw h (fun K1 m1 h1 k1 g1 z1 => ?_)
  obtain ⟨m2, e2, h2, g2⟩ := coder_new (a := n) h1
  refine pos_bind e2 ?_
  refine pos_sr h2 (fun m3 h3 g3 r3 => ?_)
  have e0 := h.1
  exact pos_some ⟨h3, ((g1 a 0 ha).sub g2 (by omega) (by omega)).trans g3 (Nat.le_refl _), k1, r3⟩
