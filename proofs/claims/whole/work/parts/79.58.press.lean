/-! ===== the class made anew ===== -/
theorem seS.up {K K' : Kn} {m m' : Mem} {a : Nat} {π : Nat → Nat} (h : seS K m a π) {p : Nat → Prop} (e : eqOn p m m') (hp : insr a 38 p) (hk : ∀ q, a ≤ q → q < a + 38 → K' q = K q) : seS K' m' a π := by
  obtain ⟨⟨k1, k2, k3, k4, k5, k6, k7⟩, h2⟩ := h.on e hp
  refine ⟨⟨(hk _ (by omega) (by omega)).trans k1, (hk _ (by omega) (by omega)).trans k2, (hk _ (by omega) (by omega)).trans k3, (hk _ (by omega) (by omega)).trans k4, (hk _ (by omega) (by omega)).trans k5, (hk _ (by omega) (by omega)).trans k6, fun j hj => ⟨(hk _ (by omega) (by omega)).trans (k7 j hj).1, (hk _ (by omega) (by omega)).trans (k7 j hj).2⟩⟩, h2⟩
theorem seS.gw {B f : Nat} {K K' : Kn} {m m' : Mem} {a : Nat} {π : Nat → Nat} (h : seS K m a π) (g : gwf B f K m K' m') (h1 : B < a) (h2 : a + 38 ≤ szm m) : seS K' m' a π :=
  h.up g.2.2.1 (fun q q1 q2 => ⟨by omega, by omega⟩) (fun q q1 q2 => g.2.1 q (by omega))
/-- a series more in the row of slots -/
def ssL (B j : Nat) (K : Kn) (m : Mem) : Prop := frh K m (B + 2 + 38 * j) ∧ K B = some (.inl 7) ∧ K (B + 1) = some (.inr (3, 4)) ∧ gR m B 0 = some (B + 1) ∧ ∀ i, i < j → seS K m (B + 2 + 38 * i) (fun k => k) ∧ gI m (B + 2 + 38 * i) 6 = 0 ∧ gR m (B + 1) i = some (B + 2 + 38 * i)
theorem pos_ss {B j : Nat} {K : Kn} {m : Mem} (h : ssL B j K m) (hj : j < 4) {x : Int32} (hx : x = nI j) {cont : Kn × Mem → Mem → Option (Kn × Mem)} {Q : Kn → Mem → Prop} (hc : ∀ q m', ssL B (j + 1) q.1 m' → pos (cont q m') Q) : pos ((ldA K m B 0 3).bind fun b6 => bd (szm m) fun b7 => bd (upK K b7 (.inl 6)) fun K8 => bd (bump m) fun m9 => (F_X7_init K8 m9 b7).bind fun q12 => (asO q12.1 q12.2 b6 x b7).bind fun m16 => cont q12 m16) Q := by
  obtain ⟨f0, k0, k1, r0, hb⟩ := h
  refine pos_bind (ldA_n r0 k1) ?_
  refine pos_nw f0 (fun K1 m1 f1 q1 g1 z1 => ?_)
  obtain ⟨K2, m2, e2, f2, g2, q2⟩ := series_new f1 q1
  refine pos_bind e2 ?_
  dsimp only
  have e0 := f0.1
  have e1 := f1.1
  have e2' := f2.1
  have g12 : ∀ B' f, B' < B + 2 + 38 * j → gwf B' f K m K2 m2 := fun B' f hB => (g1 B' f hB).sub g2 (by omega) (by omega)
  have gk : ∀ q, q < B + 2 + 38 * j → K2 q = K q := fun q hq => (g12 0 0 (by omega)).2.1 q (by omega)
  have gr : ∀ q k, q < B + 2 + 38 * j → gR m2 q k = gR m q k := fun q k hq => (g12 q (k + 1) hq).2.2.2.1 k (by omega)
  have hl : lenK K2 (B + 1) = 4 := lenK_of ((gk _ (by omega)).trans k1)
  have ea : asO K2 m2 (B + 1) x (B + 2 + 38 * j) = some (sR m2 (B + 1) j (some (B + 2 + 38 * j))) := by
    rw [hx]; exact asO_n hl hj (by omega)
  refine pos_bind ea (hc (K2, m2) _ ?_)
  obtain ⟨f3, g3, r3⟩ := f2.ref (B + 1) j (B + 2 + 38 * j)
  refine ⟨f3, (gk _ (by omega)).trans k0, (gk _ (by omega)).trans k1, ?_, fun i hi => ?_⟩
  · rw [g3.R (by omega) (by omega), gr _ _ (by omega), r0]
  · by_cases c : i = j
    · subst c
      refine ⟨q2.gw g3 (by omega) (by omega), ?_, r3⟩
      rw [g3.I (by omega) (by omega), g2.2.2.2.2 6 (by omega) (by omega) (by omega), z1]
    · obtain ⟨b1, b2, b3⟩ := hb i (by omega)
      refine ⟨(b1.gw (g12 (B + 1) 0 (by omega)) (by omega) (by omega)).gw g3 (by omega) (by omega), ?_, ?_⟩
      · rw [g3.I (by omega) (by omega), (g12 (B + 1) 0 (by omega)).I (by omega) (by omega), b2]
      · exact ((g3.2.2.2.1 i (by omega)).trans (gr _ _ (by omega))).trans b3
theorem pairs_new {K : Kn} {m : Mem} {n a b c : Nat} (h : frh K m n) : ∃ m', F_X4_init K m a b c = some m' ∧ frh K m' n ∧ gwf a 0 K m K m' ∧ gR m' a 0 = some b ∧ gR m' a 1 = some c := by
  obtain ⟨f14, g14, r14⟩ := h.ref a 0 b
  obtain ⟨f15, g15, r15⟩ := f14.ref a 1 c
  exact ⟨_, rfl, f15, g14.trans g15 (by omega), (g15.2.2.2.1 0 (by omega)).trans r14, r15⟩
theorem mender_new {K : Kn} {m : Mem} {n a b : Nat} (h : frh K m n) : ∃ m', F_X2_init K m a b = some m' ∧ frh K m' n ∧ gwf a 0 K m K m' ∧ gR m' a 0 = some b := by
  obtain ⟨f14, g14, r14⟩ := h.ref a 0 b
  exact ⟨_, rfl, f14, g14, r14⟩
theorem ptS.gw {B f : Nat} {K K' : Kn} {m m' : Mem} {x n : Nat} (h : ptS K m x n) (g : gwf B f K m K' m') (h1 : B < x) (h2 : x + 3 ≤ szm m) : ptS K' m' x n := by
  obtain ⟨a1, a2, a3, a4, a5, a6⟩ := h
  exact ⟨(g.R (by omega) (by omega)).trans a1, (g.R (by omega) (by omega)).trans a2, (g.2.1 _ (by omega)).trans a3, (g.2.1 _ (by omega)).trans a4, (g.2.1 _ (by omega)).trans a5, a6⟩
theorem pos_aside {K : Kn} {m : Mem} {n B f : Nat} (h : frh K m n) (hB : B < n) {cont : Nat → Kn × Mem → Mem → Option (Kn × Mem)} {Q : Kn → Mem → Prop} (hc : ∀ q m', frh q.1 m' (n + 38) → gwf B f K m q.1 m' → seS q.1 m' n (fun k => k) → gR m' B f = some n → pos (cont n q m') Q) : pos (bd (szm m) fun b => bd (upK K b (.inl 6)) fun K2 => bd (bump m) fun m3 => (F_X7_init K2 m3 b).bind fun q => bd (sR q.2 B f (some b)) fun m4 => cont b q m4) Q := by
  have v := h.1
  refine pos_nw h (fun K1 m1 f1 k1 g1 z1 => ?_)
  obtain ⟨K2, m2, e2, f2, g2, s2⟩ := series_new f1 k1
  refine pos_bind e2 ?_
  dsimp only
  refine pos_sr f2 (fun m3 f3 g3 r3 => ?_)
  have v2 := f2.1
  exact hc (K2, m2) m3 f3 (((g1 B f hB).sub g2 (by omega) (by omega)).trans g3 (by omega)) (s2.gw g3 (by omega) (by omega)) r3
theorem pos_pts {K : Kn} {m : Mem} {n B f : Nat} (h : frh K m n) (hB : B < n) {cont : Nat → Kn × Mem → Mem → Option (Kn × Mem)} {Q : Kn → Mem → Prop} (hc : ∀ q m', frh q.1 m' (n + 3) → gwf B f K m q.1 m' → ptS q.1 m' n 11812 → gR m' B f = some n → pos (cont n q m') Q) : pos (bd (szm m) fun b => bd (upK K b (.inl 4)) fun K2 => bd (bump m) fun m3 => (F_X5_init_11812 K2 m3 b).bind fun q => bd (sR q.2 B f (some b)) fun m4 => cont b q m4) Q := by
  have v := h.1
  refine pos_nw h (fun K1 m1 f1 k1 g1 z1 => ?_)
  obtain ⟨K2, m2, e2, f2, g2, k2, k2', r2, r2'⟩ := points_new f1 (a := n) (by omega)
  refine pos_bind e2 ?_
  dsimp only
  refine pos_sr f2 (fun m3 f3 g3 r3 => ?_)
  have v2 := f2.1
  have v1 := f1.1
  have s2 : ptS K2 m2 n 11812 := ⟨r2, r2', (g2.2.1 _ (by omega)).trans k1, k2, k2', by omega⟩
  exact hc (K2, m2) m3 f3 (((g1 B f hB).sub g2 (by omega) (by omega)).trans g3 (by omega)) (s2.gw g3 (by omega) (by omega)) r3
theorem pos_pairs {K : Kn} {m : Mem} {n B x y : Nat} (h : frh K m n) (hB : B < n) (hx : gR m B 2 = some x) (hy : gR m B 3 = some y) (kx : K x = some (.inl 4)) (ky : K y = some (.inl 4)) (lx : x < n) (ly : y < n) {cont : Nat → Kn → Mem → Option (Kn × Mem)} {Q : Kn → Mem → Prop} (hc : ∀ K' m', frh K' m' (n + 1) → gwf B 4 K m K' m' → K' n = some (.inl 3) → gR m' n 0 = some x → gR m' n 1 = some y → gR m' B 4 = some n → pos (cont n K' m') Q) : pos (bd (szm m) fun b => bd (upK K b (.inl 3)) fun K2 => bd (bump m) fun m3 => (ldO K2 m3 B 2 4).bind fun b78 => (ldO K2 m3 B 3 4).bind fun b79 => (F_X4_init K2 m3 b b78 b79).bind fun q => bd (sR q B 4 (some b)) fun m4 => cont b K2 m4) Q := by
  have v := h.1
  refine pos_nw h (fun K1 m1 f1 k1 g1 z1 => ?_)
  have w1 := g1 B 4 hB
  refine pos_bind (ldO_n (b := x) ((w1.2.2.2.1 2 (by omega)).trans hx) ((w1.2.1 _ (by omega)).trans kx)) ?_
  refine pos_bind (ldO_n (b := y) ((w1.2.2.2.1 3 (by omega)).trans hy) ((w1.2.1 _ (by omega)).trans ky)) ?_
  obtain ⟨m2, e2, f2, g2, r2, r2'⟩ := pairs_new (a := n) (b := x) (c := y) f1
  refine pos_bind e2 ?_
  refine pos_sr f2 (fun m3 f3 g3 r3 => ?_)
  have v2 := f2.1
  exact hc K1 m3 f3 ((w1.sub g2 (by omega) (by omega)).trans g3 (by omega)) k1 ((g3.R (by omega) (by omega)).trans r2) ((g3.R (by omega) (by omega)).trans r2') r3
theorem rdS.gw {B f : Nat} {K K' : Kn} {m m' : Mem} {x : Nat} (h : rdS K m x) (g : gwf B f K m K' m') (h1 : B < x) (h2 : x + 2 ≤ szm m) : rdS K' m' x :=
  ⟨(g.R (by omega) (by omega)).trans h.1, (g.2.1 _ (by omega)).trans h.2.1, (g.2.1 _ (by omega)).trans h.2.2⟩
theorem pos_reader {K : Kn} {m : Mem} {n B f : Nat} (h : frh K m n) (hB : B < n) {cont : Nat → Kn × Mem → Mem → Option (Kn × Mem)} {Q : Kn → Mem → Prop} (hc : ∀ q m', frh q.1 m' (n + 2) → gwf B f K m q.1 m' → rdS q.1 m' n → gR m' B f = some n → pos (cont n q m') Q) : pos (bd (szm m) fun b => bd (upK K b (.inl 5)) fun K2 => bd (bump m) fun m3 => (F_X6_init K2 m3 b).bind fun q => bd (sR q.2 B f (some b)) fun m4 => cont b q m4) Q := by
  have v := h.1
  refine pos_nw h (fun K1 m1 f1 k1 g1 z1 => ?_)
  obtain ⟨K2, m2, e2, f2, g2, k2, r2⟩ := reader_new f1 (a := n) (by omega)
  refine pos_bind e2 ?_
  dsimp only
  refine pos_sr f2 (fun m3 f3 g3 r3 => ?_)
  have v2 := f2.1
  have v1 := f1.1
  have s2 : rdS K2 m2 n := ⟨r2, (g2.2.1 _ (by omega)).trans k1, k2⟩
  exact hc (K2, m2) m3 f3 (((g1 B f hB).sub g2 (by omega) (by omega)).trans g3 (by omega)) (s2.gw g3 (by omega) (by omega)) r3
theorem pos_scales {K : Kn} {m : Mem} {n B f : Nat} (h : frh K m n) (hB : B < n) {cont : Nat → Kn → Mem → Option (Kn × Mem)} {Q : Kn → Mem → Prop} (hc : ∀ K' m', frh K' m' (n + 1) → gwf B f K m K' m' → K' n = some (.inl 1) → gR m' B f = some n → pos (cont n K' m') Q) : pos (bd (szm m) fun b => bd (upK K b (.inl 1)) fun K2 => bd (bump m) fun m3 => (F_X1_init K2 m3 b).bind fun q => bd (sR q B f (some b)) fun m4 => cont b K2 m4) Q := by
  have v := h.1
  refine pos_nw h (fun K1 m1 f1 k1 g1 z1 => ?_)
  obtain ⟨m2, e2, f2, g2⟩ := coder_new (a := n) f1
  refine pos_bind e2 ?_
  refine pos_sr f2 (fun m3 f3 g3 r3 => ?_)
  exact hc K1 m3 f3 (((g1 B f hB).sub g2 (by omega) (by omega)).trans g3 (by omega)) k1 r3
theorem pos_mender {K : Kn} {m : Mem} {n B x : Nat} (h : frh K m n) (hB : B < n) (hx : gR m B 5 = some x) (kx : K x = some (.inl 5)) (lx : x < n) {cont : Nat → Kn → Mem → Option (Kn × Mem)} {Q : Kn → Mem → Prop} (hc : ∀ K' m', frh K' m' (n + 1) → gwf B 7 K m K' m' → K' n = some (.inl 2) → gR m' n 0 = some x → gR m' B 7 = some n → pos (cont n K' m') Q) : pos (bd (szm m) fun b => bd (upK K b (.inl 2)) fun K2 => bd (bump m) fun m3 => (ldO K2 m3 B 5 5).bind fun b78 => (F_X2_init K2 m3 b b78).bind fun q => bd (sR q B 7 (some b)) fun m4 => cont b K2 m4) Q := by
  have v := h.1
  refine pos_nw h (fun K1 m1 f1 k1 g1 z1 => ?_)
  have w1 := g1 B 7 hB
  refine pos_bind (ldO_n (b := x) ((w1.2.2.2.1 5 (by omega)).trans hx) ((w1.2.1 _ (by omega)).trans kx)) ?_
  obtain ⟨m2, e2, f2, g2, r2⟩ := mender_new (a := n) (b := x) f1
  refine pos_bind e2 ?_
  refine pos_sr f2 (fun m3 f3 g3 r3 => ?_)
  have v2 := f2.1
  exact hc K1 m3 f3 ((w1.sub g2 (by omega) (by omega)).trans g3 (by omega)) k1 ((g3.R (by omega) (by omega)).trans r2) r3
theorem pos_tape {K : Kn} {m : Mem} {n B f : Nat} (h : frh K m n) (hB : B < n) {cont : Nat → Kn × Mem → Mem → Option (Kn × Mem)} {Q : Kn → Mem → Prop} (hc : ∀ q m', frh q.1 m' (n + 2) → gwf B f K m q.1 m' → q.1 n = some (.inl 0) → q.1 (n + 1) = some (.inr (0, 200)) → gR m' n 0 = some (n + 1) → gI m' n 1 = 0 → gR m' B f = some n → pos (cont n q m') Q) : pos (bd (szm m) fun b => bd (upK K b (.inl 0)) fun K2 => bd (bump m) fun m3 => (F_X0_init K2 m3 b).bind fun q => bd (sR q.2 B f (some b)) fun m4 => cont b q m4) Q := by
  have v := h.1
  refine pos_nw h (fun K1 m1 f1 k1 g1 z1 => ?_)
  obtain ⟨K2, m2, e2, f2, g2, k2, r2⟩ := block_new f1 (a := n) (by omega)
  refine pos_bind e2 ?_
  dsimp only
  refine pos_sr f2 (fun m3 f3 g3 r3 => ?_)
  have v2 := f2.1
  have v1 := f1.1
  exact hc (K2, m2) m3 f3 (((g1 B f hB).sub g2 (by omega) (by omega)).trans g3 (by omega)) ((g2.2.1 _ (by omega)).trans k1) k2 ((g3.R (by omega) (by omega)).trans r2) (((g3.I (by omega) (by omega)).trans (g2.2.2.2.2 1 (by omega) (by omega) (by omega))).trans (z1 1)) r3
theorem press_new {K : Kn} {m : Mem} {B : Nat} (h : frh K m (B + 1)) (hk : K B = some (.inl 7)) (t : Nat → Nat) : pos (F_X8_init K m B) (fun K' m' => frh K' m' (B + 205) ∧ RX K' m' B (fun _ => none, t, 0)) := by
  unfold F_X8_init f_X8_init
  refine pos_nw h (fun K1 m1 h1 k1 g1 z1 => ?_)
  refine pos_sr h1 (fun m2 h2 g2 r2 => ?_)
  have hS : ssL B 0 K1 m2 := ⟨h2, ((g1 B 0 (by omega)).2.1 B (by rw [h.1]; omega)).trans hk, k1, r2, fun i hi => absurd hi (by omega)⟩
  clear h1 k1 g1 z1 h2 g2 r2
  refine pos_ss hS (by omega) (show (0 : Int32) = nI 0 from rfl) (fun q0 n0 hS0 => ?_)
  clear hS
  refine pos_ss hS0 (by omega) (show (1 : Int32) = nI 1 from rfl) (fun q1 n1 hS1 => ?_)
  clear hS0
  refine pos_ss hS1 (by omega) (show (2 : Int32) = nI 2 from rfl) (fun q2 n2 hS2 => ?_)
  clear hS1
  refine pos_ss hS2 (by omega) (show (3 : Int32) = nI 3 from rfl) (fun q3 n3 hS3 => ?_)
  clear hS2
  obtain ⟨f0, kB, kB1, rB, hb⟩ := hS3
  generalize q3.1 = K3 at f0 kB kB1 hb
  have f0 : frh K3 n3 (B + 154) := f0
  refine pos_aside f0 (by omega) (fun p1 m1 f1 w1 s1 r1 => ?_)
  generalize p1.1 = K1 at f1 w1 s1
  have f1 : frh K1 m1 (B + 192) := f1
  refine pos_pts f1 (by omega) (fun p2 m2 f2 w2 s2 r2 => ?_)
  generalize p2.1 = K2 at f2 w2 s2
  have f2 : frh K2 m2 (B + 195) := f2
  refine pos_pts f2 (by omega) (fun p3 m3 f3 w3 s3 r3 => ?_)
  generalize p3.1 = K3' at f3 w3 s3
  have f3 : frh K3' m3 (B + 198) := f3
  have s2' : ptS K3' m3 (B + 192) 11812 := s2.gw w3 (by omega) (by rw [f2.1]; omega)
  refine pos_pairs f3 (by omega) ((w3.2.2.2.1 2 (by omega)).trans r2) r3 s2'.2.2.1 s3.2.2.1 (by omega) (by omega) (fun K4 m4 f4 w4 k4 r4 r4' r4'' => ?_)
  have f4 : frh K4 m4 (B + 199) := f4
  refine pos_reader f4 (by omega) (fun p5 m5 f5 w5 s5 r5 => ?_)
  generalize p5.1 = K5 at f5 w5 s5
  have f5 : frh K5 m5 (B + 201) := f5
  refine pos_scales f5 (by omega) (fun K6 m6 f6 w6 k6 r6 => ?_)
  have f6 : frh K6 m6 (B + 202) := f6
  refine pos_mender f6 (by omega) ((w6.2.2.2.1 5 (by omega)).trans r5) ((w6.2.1 _ (by rw [f5.1]; omega)).trans s5.2.1) (by omega) (fun K7 m7 f7 w7 k7 r7 r7' => ?_)
  have f7 : frh K7 m7 (B + 203) := f7
  refine pos_tape f7 (by omega) (fun p8 m8 f8 w8 k8 k8' r8 z8 r8' => ?_)
  generalize p8.1 = K8 at f8 w8 k8 k8'
  have f8 : frh K8 m8 (B + 205) := f8
  refine pos_some ⟨f8, ?_⟩
  have E7 : gwf B 7 K6 m6 K8 m8 := w7.trans w8 (by omega)
  have E6 : gwf B 6 K5 m5 K8 m8 := w6.trans E7 (by omega)
  have E5 : gwf B 5 K4 m4 K8 m8 := w5.trans E6 (by omega)
  have E4 : gwf B 4 K3' m3 K8 m8 := w4.trans E5 (by omega)
  have E3 : gwf B 3 K2 m2 K8 m8 := w3.trans E4 (by omega)
  have E2 : gwf B 2 K1 m1 K8 m8 := w2.trans E3 (by omega)
  have E1 : gwf B 1 K3 n3 K8 m8 := w1.trans E2 (by omega)
  have v0 := f0.1
  have v1 := f1.1
  have v2 := f2.1
  have v3 := f3.1
  have v4 := f4.1
  have v5 := f5.1
  have v6 := f6.1
  have v7 := f7.1
  have s1' : seS K8 m8 (B + 2 + 38 * 4) (fun k => k) := s1.gw E2 (by omega) (by omega)
  refine ⟨?_, ?_, ?_, ?_, fun j => B + 2 + 38 * j, ⟨fun j hj => ⟨j, hj, rfl⟩, fun j k _ _ z => by dsimp only at z; omega, fun j hj => ?_, ?_⟩, fun j hj => ?_, fun k => k, s1'⟩
  · refine ⟨(E1.2.1 _ (by omega)).trans kB, (E1.2.1 _ (by omega)).trans kB1, fun i hi => ?_, ?_, ?_, ?_, k8, k8'⟩
    · by_cases c : i = 4
      · subst c
        exact s1'.1
      · exact ((hb i (by omega)).1.gw E1 (by omega) (by omega)).1
    · exact (E5.2.1 _ (by omega)).trans k4
    · exact (E7.2.1 _ (by omega)).trans k6
    · exact (w8.2.1 _ (by omega)).trans k7
  · exact ⟨(E1.2.2.2.1 0 (by omega)).trans rB, (E3.2.2.2.1 2 (by omega)).trans r2, (E4.2.2.2.1 3 (by omega)).trans r3, (E5.2.2.2.1 4 (by omega)).trans r4'', (E6.2.2.2.1 5 (by omega)).trans r5, (E7.2.2.2.1 6 (by omega)).trans r6, (w8.2.2.2.1 7 (by omega)).trans r7', r8'⟩
  · exact ⟨s5.gw E6 (by omega) (by omega), s2.gw E3 (by omega) (by omega), s3.gw E4 (by omega) (by omega), (E5.R (by omega) (by omega)).trans r4, (E5.R (by omega) (by omega)).trans r4', (w8.R (by omega) (by omega)).trans r7⟩
  · exact ⟨r8, z8, fun i hi => absurd hi (Nat.not_lt_zero i)⟩
  · exact (E1.R (by omega) (by omega)).trans (hb j hj).2.2
  · exact (E2.2.2.2.1 1 (by omega)).trans r1
  · show (∃ π, seS K8 m8 (B + 2 + 38 * j) π) ∧ gI m8 (B + 2 + 38 * j) 6 = 0
    exact ⟨⟨_, (hb j hj).1.gw E1 (by omega) (by omega)⟩, (E1.I (by omega) (by omega)).trans (hb j hj).2.1⟩
