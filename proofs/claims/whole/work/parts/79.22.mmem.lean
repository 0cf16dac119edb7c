/-! ===== the reference: its memory ===== -/
/-- only cells of W are written; references stand -/
def fr (W : Nat → Nat → Prop) (m m' : Mem) : Prop := (∀ a k, gR m' a k = gR m a k) ∧ szm m' = szm m ∧ ∀ a k, ¬ W a k → gI m' a k = gI m a k ∧ gJ m' a k = gJ m a k
theorem fr.refl {W : Nat → Nat → Prop} (m : Mem) : fr W m m := ⟨fun _ _ => rfl, rfl, fun _ _ _ => ⟨rfl, rfl⟩⟩
theorem fr.trans {W : Nat → Nat → Prop} {m m1 m2 : Mem} (h : fr W m m1) (h' : fr W m1 m2) : fr W m m2 := ⟨fun a k => (h'.1 a k).trans (h.1 a k), h'.2.1.trans h.2.1, fun a k w => ⟨(h'.2.2 a k w).1.trans (h.2.2 a k w).1, (h'.2.2 a k w).2.trans (h.2.2 a k w).2⟩⟩
theorem fr.mono {W W' : Nat → Nat → Prop} {m m' : Mem} (h : fr W m m') (hw : ∀ a k, W a k → W' a k) : fr W' m m' := ⟨h.1, h.2.1, fun a k w => h.2.2 a k (fun z => w (hw a k z))⟩
theorem fr.I {W : Nat → Nat → Prop} {m m' : Mem} (h : fr W m m') {a k : Nat} (w : ¬ W a k) : gI m' a k = gI m a k := (h.2.2 a k w).1
theorem fr.J {W : Nat → Nat → Prop} {m m' : Mem} (h : fr W m m') {a k : Nat} (w : ¬ W a k) : gJ m' a k = gJ m a k := (h.2.2 a k w).2
theorem fr.R {W : Nat → Nat → Prop} {m m' : Mem} (h : fr W m m') (a k : Nat) : gR m' a k = gR m a k := h.1 a k
theorem fr_sI {W : Nat → Nat → Prop} {m : Mem} {a k : Nat} {v : Int32} (h : W a k) : fr W m (sI m a k v) := ⟨fun _ _ => rfl, rfl, fun b j w => ⟨gI_sI_n (by
  by_cases c : b = a
  · right; intro z; subst c; subst z; exact w h
  · left; exact c), rfl⟩⟩
theorem fr_sJ {W : Nat → Nat → Prop} {m : Mem} {a k : Nat} {v : Int64} (h : W a k) : fr W m (sJ m a k v) := ⟨fun _ _ => rfl, rfl, fun b j w => ⟨rfl, gJ_sJ_n (by
  by_cases c : b = a
  · right; intro z; subst c; subst z; exact w h
  · left; exact c)⟩⟩
/-- its arrays, by their fields -/
def KM (K : Kn) (A : Nat) : Prop := K (A + 1) = some (.inr (0, 5)) ∧ K (A + 2) = some (.inr (0, 5)) ∧ K (A + 3) = some (.inr (0, 5)) ∧ K (A + 4) = some (.inr (0, 16000)) ∧ K (A + 5) = some (.inr (0, 80)) ∧ K (A + 6) = some (.inr (0, 80)) ∧ K (A + 7) = some (.inr (2, 80)) ∧ K (A + 8) = some (.inr (0, 80)) ∧ K (A + 9) = some (.inr (0, 80)) ∧ K (A + 10) = some (.inr (0, 5)) ∧ K (A + 11) = some (.inr (0, 100)) ∧ K (A + 12) = some (.inr (1, 100)) ∧ K (A + 13) = some (.inr (0, 200)) ∧ K (A + 14) = some (.inr (1, 800)) ∧ K (A + 15) = some (.inr (1, 800)) ∧ K (A + 16) = some (.inr (0, 800)) ∧ K (A + 17) = some (.inr (0, 800)) ∧ K (A + 18) = some (.inr (0, 800)) ∧ K (A + 19) = some (.inr (1, 12040)) ∧ K (A + 20) = some (.inr (1, 12040)) ∧ K (A + 21) = some (.inr (0, 12040)) ∧ K (A + 22) = some (.inr (1, 12040)) ∧ K (A + 23) = some (.inr (1, 12040))
def roM (m : Mem) (A : Nat) : Prop := (∀ k, k < 13 → gR m A k = some (A + 1 + k)) ∧ (∀ k, k < 5 → gR m A (21 + k) = some (A + 14 + k)) ∧ (∀ k, k < 3 → gR m A (30 + k) = some (A + 19 + k)) ∧ (∀ k, k < 2 → gR m A (38 + k) = some (A + 22 + k))
def MS (K : Kn) (m : Mem) (A : Nat) : Prop := KM K A ∧ roM m A
theorem MS.on {W : Nat → Nat → Prop} {K : Kn} {m m' : Mem} {A : Nat} (h : MS K m A) (e : fr W m m') : MS K m' A :=
  ⟨h.1, fun k hk => (e.R _ _).trans (h.2.1 k hk), fun k hk => (e.R _ _).trans (h.2.2.1 k hk), fun k hk => (e.R _ _).trans (h.2.2.2.1 k hk), fun k hk => (e.R _ _).trans (h.2.2.2.2 k hk)⟩
theorem MS.d0 {K : Kn} {m : Mem} {A : Nat} (h : MS K m A) : ldA K m A 0 0 = some (A + 1) := ldA_n (h.2.1 0 (by omega)) (h.1.1)
theorem MS.l0 {K : Kn} {m : Mem} {A : Nat} (h : MS K m A) : lenK K (A + 1) = 5 := lenK_of (h.1.1)
theorem MS.g0 {K : Kn} {m : Mem} {A : Nat} (h : MS K m A) {i : Nat} (hi : i < 5) : alI K m (A + 1) (nI i) = some (gI m (A + 1) i) := alI_n h.l0 hi (by omega)
theorem MS.s0 {K : Kn} {m : Mem} {A : Nat} (h : MS K m A) {i : Nat} (hi : i < 5) {v : Int32} : asI K m (A + 1) (nI i) v = some (sI m (A + 1) i v) := asI_n h.l0 hi (by omega)
theorem MS.d1 {K : Kn} {m : Mem} {A : Nat} (h : MS K m A) : ldA K m A 1 0 = some (A + 2) := ldA_n (h.2.1 1 (by omega)) (h.1.2.1)
theorem MS.l1 {K : Kn} {m : Mem} {A : Nat} (h : MS K m A) : lenK K (A + 2) = 5 := lenK_of (h.1.2.1)
theorem MS.g1 {K : Kn} {m : Mem} {A : Nat} (h : MS K m A) {i : Nat} (hi : i < 5) : alI K m (A + 2) (nI i) = some (gI m (A + 2) i) := alI_n h.l1 hi (by omega)
theorem MS.s1 {K : Kn} {m : Mem} {A : Nat} (h : MS K m A) {i : Nat} (hi : i < 5) {v : Int32} : asI K m (A + 2) (nI i) v = some (sI m (A + 2) i v) := asI_n h.l1 hi (by omega)
theorem MS.d2 {K : Kn} {m : Mem} {A : Nat} (h : MS K m A) : ldA K m A 2 0 = some (A + 3) := ldA_n (h.2.1 2 (by omega)) (h.1.2.2.1)
theorem MS.l2 {K : Kn} {m : Mem} {A : Nat} (h : MS K m A) : lenK K (A + 3) = 5 := lenK_of (h.1.2.2.1)
theorem MS.g2 {K : Kn} {m : Mem} {A : Nat} (h : MS K m A) {i : Nat} (hi : i < 5) : alI K m (A + 3) (nI i) = some (gI m (A + 3) i) := alI_n h.l2 hi (by omega)
theorem MS.s2 {K : Kn} {m : Mem} {A : Nat} (h : MS K m A) {i : Nat} (hi : i < 5) {v : Int32} : asI K m (A + 3) (nI i) v = some (sI m (A + 3) i v) := asI_n h.l2 hi (by omega)
theorem MS.d3 {K : Kn} {m : Mem} {A : Nat} (h : MS K m A) : ldA K m A 3 0 = some (A + 4) := ldA_n (h.2.1 3 (by omega)) (h.1.2.2.2.1)
theorem MS.l3 {K : Kn} {m : Mem} {A : Nat} (h : MS K m A) : lenK K (A + 4) = 16000 := lenK_of (h.1.2.2.2.1)
theorem MS.g3 {K : Kn} {m : Mem} {A : Nat} (h : MS K m A) {i : Nat} (hi : i < 16000) : alI K m (A + 4) (nI i) = some (gI m (A + 4) i) := alI_n h.l3 hi (by omega)
theorem MS.s3 {K : Kn} {m : Mem} {A : Nat} (h : MS K m A) {i : Nat} (hi : i < 16000) {v : Int32} : asI K m (A + 4) (nI i) v = some (sI m (A + 4) i v) := asI_n h.l3 hi (by omega)
theorem MS.d4 {K : Kn} {m : Mem} {A : Nat} (h : MS K m A) : ldA K m A 4 0 = some (A + 5) := ldA_n (h.2.1 4 (by omega)) (h.1.2.2.2.2.1)
theorem MS.l4 {K : Kn} {m : Mem} {A : Nat} (h : MS K m A) : lenK K (A + 5) = 80 := lenK_of (h.1.2.2.2.2.1)
theorem MS.g4 {K : Kn} {m : Mem} {A : Nat} (h : MS K m A) {i : Nat} (hi : i < 80) : alI K m (A + 5) (nI i) = some (gI m (A + 5) i) := alI_n h.l4 hi (by omega)
theorem MS.s4 {K : Kn} {m : Mem} {A : Nat} (h : MS K m A) {i : Nat} (hi : i < 80) {v : Int32} : asI K m (A + 5) (nI i) v = some (sI m (A + 5) i v) := asI_n h.l4 hi (by omega)
theorem MS.d5 {K : Kn} {m : Mem} {A : Nat} (h : MS K m A) : ldA K m A 5 0 = some (A + 6) := ldA_n (h.2.1 5 (by omega)) (h.1.2.2.2.2.2.1)
theorem MS.l5 {K : Kn} {m : Mem} {A : Nat} (h : MS K m A) : lenK K (A + 6) = 80 := lenK_of (h.1.2.2.2.2.2.1)
theorem MS.g5 {K : Kn} {m : Mem} {A : Nat} (h : MS K m A) {i : Nat} (hi : i < 80) : alI K m (A + 6) (nI i) = some (gI m (A + 6) i) := alI_n h.l5 hi (by omega)
theorem MS.s5 {K : Kn} {m : Mem} {A : Nat} (h : MS K m A) {i : Nat} (hi : i < 80) {v : Int32} : asI K m (A + 6) (nI i) v = some (sI m (A + 6) i v) := asI_n h.l5 hi (by omega)
theorem MS.d6 {K : Kn} {m : Mem} {A : Nat} (h : MS K m A) : ldA K m A 6 2 = some (A + 7) := ldA_n (h.2.1 6 (by omega)) (h.1.2.2.2.2.2.2.1)
theorem MS.l6 {K : Kn} {m : Mem} {A : Nat} (h : MS K m A) : lenK K (A + 7) = 80 := lenK_of (h.1.2.2.2.2.2.2.1)
theorem MS.g6 {K : Kn} {m : Mem} {A : Nat} (h : MS K m A) {i : Nat} (hi : i < 80) : alI K m (A + 7) (nI i) = some (gI m (A + 7) i) := alI_n h.l6 hi (by omega)
theorem MS.s6 {K : Kn} {m : Mem} {A : Nat} (h : MS K m A) {i : Nat} (hi : i < 80) {v : Int32} (hv : v = 0 ∨ v = 1) : asZ K m (A + 7) (nI i) v = some (sI m (A + 7) i v) := asZ_n h.l6 hi (by omega) hv
theorem MS.d7 {K : Kn} {m : Mem} {A : Nat} (h : MS K m A) : ldA K m A 7 0 = some (A + 8) := ldA_n (h.2.1 7 (by omega)) (h.1.2.2.2.2.2.2.2.1)
theorem MS.l7 {K : Kn} {m : Mem} {A : Nat} (h : MS K m A) : lenK K (A + 8) = 80 := lenK_of (h.1.2.2.2.2.2.2.2.1)
theorem MS.g7 {K : Kn} {m : Mem} {A : Nat} (h : MS K m A) {i : Nat} (hi : i < 80) : alI K m (A + 8) (nI i) = some (gI m (A + 8) i) := alI_n h.l7 hi (by omega)
theorem MS.s7 {K : Kn} {m : Mem} {A : Nat} (h : MS K m A) {i : Nat} (hi : i < 80) {v : Int32} : asI K m (A + 8) (nI i) v = some (sI m (A + 8) i v) := asI_n h.l7 hi (by omega)
theorem MS.d8 {K : Kn} {m : Mem} {A : Nat} (h : MS K m A) : ldA K m A 8 0 = some (A + 9) := ldA_n (h.2.1 8 (by omega)) (h.1.2.2.2.2.2.2.2.2.1)
theorem MS.l8 {K : Kn} {m : Mem} {A : Nat} (h : MS K m A) : lenK K (A + 9) = 80 := lenK_of (h.1.2.2.2.2.2.2.2.2.1)
theorem MS.g8 {K : Kn} {m : Mem} {A : Nat} (h : MS K m A) {i : Nat} (hi : i < 80) : alI K m (A + 9) (nI i) = some (gI m (A + 9) i) := alI_n h.l8 hi (by omega)
theorem MS.s8 {K : Kn} {m : Mem} {A : Nat} (h : MS K m A) {i : Nat} (hi : i < 80) {v : Int32} : asI K m (A + 9) (nI i) v = some (sI m (A + 9) i v) := asI_n h.l8 hi (by omega)
theorem MS.d9 {K : Kn} {m : Mem} {A : Nat} (h : MS K m A) : ldA K m A 9 0 = some (A + 10) := ldA_n (h.2.1 9 (by omega)) (h.1.2.2.2.2.2.2.2.2.2.1)
theorem MS.l9 {K : Kn} {m : Mem} {A : Nat} (h : MS K m A) : lenK K (A + 10) = 5 := lenK_of (h.1.2.2.2.2.2.2.2.2.2.1)
theorem MS.g9 {K : Kn} {m : Mem} {A : Nat} (h : MS K m A) {i : Nat} (hi : i < 5) : alI K m (A + 10) (nI i) = some (gI m (A + 10) i) := alI_n h.l9 hi (by omega)
theorem MS.s9 {K : Kn} {m : Mem} {A : Nat} (h : MS K m A) {i : Nat} (hi : i < 5) {v : Int32} : asI K m (A + 10) (nI i) v = some (sI m (A + 10) i v) := asI_n h.l9 hi (by omega)
theorem MS.d10 {K : Kn} {m : Mem} {A : Nat} (h : MS K m A) : ldA K m A 10 0 = some (A + 11) := ldA_n (h.2.1 10 (by omega)) (h.1.2.2.2.2.2.2.2.2.2.2.1)
theorem MS.l10 {K : Kn} {m : Mem} {A : Nat} (h : MS K m A) : lenK K (A + 11) = 100 := lenK_of (h.1.2.2.2.2.2.2.2.2.2.2.1)
theorem MS.g10 {K : Kn} {m : Mem} {A : Nat} (h : MS K m A) {i : Nat} (hi : i < 100) : alI K m (A + 11) (nI i) = some (gI m (A + 11) i) := alI_n h.l10 hi (by omega)
theorem MS.s10 {K : Kn} {m : Mem} {A : Nat} (h : MS K m A) {i : Nat} (hi : i < 100) {v : Int32} : asI K m (A + 11) (nI i) v = some (sI m (A + 11) i v) := asI_n h.l10 hi (by omega)
theorem MS.d11 {K : Kn} {m : Mem} {A : Nat} (h : MS K m A) : ldA K m A 11 1 = some (A + 12) := ldA_n (h.2.1 11 (by omega)) (h.1.2.2.2.2.2.2.2.2.2.2.2.1)
theorem MS.l11 {K : Kn} {m : Mem} {A : Nat} (h : MS K m A) : lenK K (A + 12) = 100 := lenK_of (h.1.2.2.2.2.2.2.2.2.2.2.2.1)
theorem MS.g11 {K : Kn} {m : Mem} {A : Nat} (h : MS K m A) {i : Nat} (hi : i < 100) : alJ K m (A + 12) (nI i) = some (gJ m (A + 12) i) := alJ_n h.l11 hi (by omega)
theorem MS.s11 {K : Kn} {m : Mem} {A : Nat} (h : MS K m A) {i : Nat} (hi : i < 100) {v : Int64} : asJ K m (A + 12) (nI i) v = some (sJ m (A + 12) i v) := asJ_n h.l11 hi (by omega)
theorem MS.d12 {K : Kn} {m : Mem} {A : Nat} (h : MS K m A) : ldA K m A 12 0 = some (A + 13) := ldA_n (h.2.1 12 (by omega)) (h.1.2.2.2.2.2.2.2.2.2.2.2.2.1)
theorem MS.l12 {K : Kn} {m : Mem} {A : Nat} (h : MS K m A) : lenK K (A + 13) = 200 := lenK_of (h.1.2.2.2.2.2.2.2.2.2.2.2.2.1)
theorem MS.g12 {K : Kn} {m : Mem} {A : Nat} (h : MS K m A) {i : Nat} (hi : i < 200) : alI K m (A + 13) (nI i) = some (gI m (A + 13) i) := alI_n h.l12 hi (by omega)
theorem MS.s12 {K : Kn} {m : Mem} {A : Nat} (h : MS K m A) {i : Nat} (hi : i < 200) {v : Int32} : asI K m (A + 13) (nI i) v = some (sI m (A + 13) i v) := asI_n h.l12 hi (by omega)
theorem MS.d21 {K : Kn} {m : Mem} {A : Nat} (h : MS K m A) : ldA K m A 21 1 = some (A + 14) := ldA_n (h.2.2.1 0 (by omega)) (h.1.2.2.2.2.2.2.2.2.2.2.2.2.2.1)
theorem MS.l21 {K : Kn} {m : Mem} {A : Nat} (h : MS K m A) : lenK K (A + 14) = 800 := lenK_of (h.1.2.2.2.2.2.2.2.2.2.2.2.2.2.1)
theorem MS.g21 {K : Kn} {m : Mem} {A : Nat} (h : MS K m A) {i : Nat} (hi : i < 800) : alJ K m (A + 14) (nI i) = some (gJ m (A + 14) i) := alJ_n h.l21 hi (by omega)
theorem MS.s21 {K : Kn} {m : Mem} {A : Nat} (h : MS K m A) {i : Nat} (hi : i < 800) {v : Int64} : asJ K m (A + 14) (nI i) v = some (sJ m (A + 14) i v) := asJ_n h.l21 hi (by omega)
theorem MS.d22 {K : Kn} {m : Mem} {A : Nat} (h : MS K m A) : ldA K m A 22 1 = some (A + 15) := ldA_n (h.2.2.1 1 (by omega)) (h.1.2.2.2.2.2.2.2.2.2.2.2.2.2.2.1)
theorem MS.l22 {K : Kn} {m : Mem} {A : Nat} (h : MS K m A) : lenK K (A + 15) = 800 := lenK_of (h.1.2.2.2.2.2.2.2.2.2.2.2.2.2.2.1)
theorem MS.g22 {K : Kn} {m : Mem} {A : Nat} (h : MS K m A) {i : Nat} (hi : i < 800) : alJ K m (A + 15) (nI i) = some (gJ m (A + 15) i) := alJ_n h.l22 hi (by omega)
theorem MS.s22 {K : Kn} {m : Mem} {A : Nat} (h : MS K m A) {i : Nat} (hi : i < 800) {v : Int64} : asJ K m (A + 15) (nI i) v = some (sJ m (A + 15) i v) := asJ_n h.l22 hi (by omega)
theorem MS.d23 {K : Kn} {m : Mem} {A : Nat} (h : MS K m A) : ldA K m A 23 0 = some (A + 16) := ldA_n (h.2.2.1 2 (by omega)) (h.1.2.2.2.2.2.2.2.2.2.2.2.2.2.2.2.1)
theorem MS.l23 {K : Kn} {m : Mem} {A : Nat} (h : MS K m A) : lenK K (A + 16) = 800 := lenK_of (h.1.2.2.2.2.2.2.2.2.2.2.2.2.2.2.2.1)
theorem MS.g23 {K : Kn} {m : Mem} {A : Nat} (h : MS K m A) {i : Nat} (hi : i < 800) : alI K m (A + 16) (nI i) = some (gI m (A + 16) i) := alI_n h.l23 hi (by omega)
theorem MS.s23 {K : Kn} {m : Mem} {A : Nat} (h : MS K m A) {i : Nat} (hi : i < 800) {v : Int32} : asI K m (A + 16) (nI i) v = some (sI m (A + 16) i v) := asI_n h.l23 hi (by omega)
theorem MS.d24 {K : Kn} {m : Mem} {A : Nat} (h : MS K m A) : ldA K m A 24 0 = some (A + 17) := ldA_n (h.2.2.1 3 (by omega)) (h.1.2.2.2.2.2.2.2.2.2.2.2.2.2.2.2.2.1)
theorem MS.l24 {K : Kn} {m : Mem} {A : Nat} (h : MS K m A) : lenK K (A + 17) = 800 := lenK_of (h.1.2.2.2.2.2.2.2.2.2.2.2.2.2.2.2.2.1)
theorem MS.g24 {K : Kn} {m : Mem} {A : Nat} (h : MS K m A) {i : Nat} (hi : i < 800) : alI K m (A + 17) (nI i) = some (gI m (A + 17) i) := alI_n h.l24 hi (by omega)
theorem MS.s24 {K : Kn} {m : Mem} {A : Nat} (h : MS K m A) {i : Nat} (hi : i < 800) {v : Int32} : asI K m (A + 17) (nI i) v = some (sI m (A + 17) i v) := asI_n h.l24 hi (by omega)
theorem MS.d25 {K : Kn} {m : Mem} {A : Nat} (h : MS K m A) : ldA K m A 25 0 = some (A + 18) := ldA_n (h.2.2.1 4 (by omega)) (h.1.2.2.2.2.2.2.2.2.2.2.2.2.2.2.2.2.2.1)
theorem MS.l25 {K : Kn} {m : Mem} {A : Nat} (h : MS K m A) : lenK K (A + 18) = 800 := lenK_of (h.1.2.2.2.2.2.2.2.2.2.2.2.2.2.2.2.2.2.1)
theorem MS.g25 {K : Kn} {m : Mem} {A : Nat} (h : MS K m A) {i : Nat} (hi : i < 800) : alI K m (A + 18) (nI i) = some (gI m (A + 18) i) := alI_n h.l25 hi (by omega)
theorem MS.s25 {K : Kn} {m : Mem} {A : Nat} (h : MS K m A) {i : Nat} (hi : i < 800) {v : Int32} : asI K m (A + 18) (nI i) v = some (sI m (A + 18) i v) := asI_n h.l25 hi (by omega)
theorem MS.d30 {K : Kn} {m : Mem} {A : Nat} (h : MS K m A) : ldA K m A 30 1 = some (A + 19) := ldA_n (h.2.2.2.1 0 (by omega)) (h.1.2.2.2.2.2.2.2.2.2.2.2.2.2.2.2.2.2.2.1)
theorem MS.l30 {K : Kn} {m : Mem} {A : Nat} (h : MS K m A) : lenK K (A + 19) = 12040 := lenK_of (h.1.2.2.2.2.2.2.2.2.2.2.2.2.2.2.2.2.2.2.1)
theorem MS.g30 {K : Kn} {m : Mem} {A : Nat} (h : MS K m A) {i : Nat} (hi : i < 12040) : alJ K m (A + 19) (nI i) = some (gJ m (A + 19) i) := alJ_n h.l30 hi (by omega)
theorem MS.s30 {K : Kn} {m : Mem} {A : Nat} (h : MS K m A) {i : Nat} (hi : i < 12040) {v : Int64} : asJ K m (A + 19) (nI i) v = some (sJ m (A + 19) i v) := asJ_n h.l30 hi (by omega)
theorem MS.d31 {K : Kn} {m : Mem} {A : Nat} (h : MS K m A) : ldA K m A 31 1 = some (A + 20) := ldA_n (h.2.2.2.1 1 (by omega)) (h.1.2.2.2.2.2.2.2.2.2.2.2.2.2.2.2.2.2.2.2.1)
theorem MS.l31 {K : Kn} {m : Mem} {A : Nat} (h : MS K m A) : lenK K (A + 20) = 12040 := lenK_of (h.1.2.2.2.2.2.2.2.2.2.2.2.2.2.2.2.2.2.2.2.1)
theorem MS.g31 {K : Kn} {m : Mem} {A : Nat} (h : MS K m A) {i : Nat} (hi : i < 12040) : alJ K m (A + 20) (nI i) = some (gJ m (A + 20) i) := alJ_n h.l31 hi (by omega)
theorem MS.s31 {K : Kn} {m : Mem} {A : Nat} (h : MS K m A) {i : Nat} (hi : i < 12040) {v : Int64} : asJ K m (A + 20) (nI i) v = some (sJ m (A + 20) i v) := asJ_n h.l31 hi (by omega)
theorem MS.d32 {K : Kn} {m : Mem} {A : Nat} (h : MS K m A) : ldA K m A 32 0 = some (A + 21) := ldA_n (h.2.2.2.1 2 (by omega)) (h.1.2.2.2.2.2.2.2.2.2.2.2.2.2.2.2.2.2.2.2.2.1)
theorem MS.l32 {K : Kn} {m : Mem} {A : Nat} (h : MS K m A) : lenK K (A + 21) = 12040 := lenK_of (h.1.2.2.2.2.2.2.2.2.2.2.2.2.2.2.2.2.2.2.2.2.1)
theorem MS.g32 {K : Kn} {m : Mem} {A : Nat} (h : MS K m A) {i : Nat} (hi : i < 12040) : alI K m (A + 21) (nI i) = some (gI m (A + 21) i) := alI_n h.l32 hi (by omega)
theorem MS.s32 {K : Kn} {m : Mem} {A : Nat} (h : MS K m A) {i : Nat} (hi : i < 12040) {v : Int32} : asI K m (A + 21) (nI i) v = some (sI m (A + 21) i v) := asI_n h.l32 hi (by omega)
theorem MS.d38 {K : Kn} {m : Mem} {A : Nat} (h : MS K m A) : ldA K m A 38 1 = some (A + 22) := ldA_n (h.2.2.2.2 0 (by omega)) (h.1.2.2.2.2.2.2.2.2.2.2.2.2.2.2.2.2.2.2.2.2.2.1)
theorem MS.l38 {K : Kn} {m : Mem} {A : Nat} (h : MS K m A) : lenK K (A + 22) = 12040 := lenK_of (h.1.2.2.2.2.2.2.2.2.2.2.2.2.2.2.2.2.2.2.2.2.2.1)
theorem MS.g38 {K : Kn} {m : Mem} {A : Nat} (h : MS K m A) {i : Nat} (hi : i < 12040) : alJ K m (A + 22) (nI i) = some (gJ m (A + 22) i) := alJ_n h.l38 hi (by omega)
theorem MS.s38 {K : Kn} {m : Mem} {A : Nat} (h : MS K m A) {i : Nat} (hi : i < 12040) {v : Int64} : asJ K m (A + 22) (nI i) v = some (sJ m (A + 22) i v) := asJ_n h.l38 hi (by omega)
theorem MS.d39 {K : Kn} {m : Mem} {A : Nat} (h : MS K m A) : ldA K m A 39 1 = some (A + 23) := ldA_n (h.2.2.2.2 1 (by omega)) (h.1.2.2.2.2.2.2.2.2.2.2.2.2.2.2.2.2.2.2.2.2.2.2)
theorem MS.l39 {K : Kn} {m : Mem} {A : Nat} (h : MS K m A) : lenK K (A + 23) = 12040 := lenK_of (h.1.2.2.2.2.2.2.2.2.2.2.2.2.2.2.2.2.2.2.2.2.2.2)
theorem MS.g39 {K : Kn} {m : Mem} {A : Nat} (h : MS K m A) {i : Nat} (hi : i < 12040) : alJ K m (A + 23) (nI i) = some (gJ m (A + 23) i) := alJ_n h.l39 hi (by omega)
theorem MS.s39 {K : Kn} {m : Mem} {A : Nat} (h : MS K m A) {i : Nat} (hi : i < 12040) {v : Int64} : asJ K m (A + 23) (nI i) v = some (sJ m (A + 23) i v) := asJ_n h.l39 hi (by omega)
/-- bytes of a block -/
def mby (m : Mem) (A q : Nat) (by_ : Nat → Nat) (n : Nat) : Prop := ∀ i, i < n → gI m (A + 4) (200 * q + i) = nI (by_ i) ∧ by_ i < 256
theorem mby.on {W : Nat → Nat → Prop} {m m' : Mem} {A q n : Nat} {by_ : Nat → Nat} (h : mby m A q by_ n) (e : fr W m m') (hw : ∀ i, i < n → ¬ W (A + 4) (200 * q + i)) : mby m' A q by_ n := fun i hi => ⟨(e.I (hw i hi)).trans (h i hi).1, (h i hi).2⟩
theorem mby.less {m : Mem} {A q n n' : Nat} {by_ : Nat → Nat} (h : mby m A q by_ n) (hn : n' ≤ n) : mby m A q by_ n' := fun i hi => h i (by omega)
theorem in_ok (x lo hi : Int64) : F_X9_in x lo hi = some (if lo.toInt ≤ x.toInt ∧ x.toInt ≤ hi.toInt then 1 else 0) := by
  unfold F_X9_in f_X9_in f_X9_in_17
  have e1 : lg_cmp x lo < 0 ↔ x.toInt < lo.toInt := (lg_cmp_lt _ _).trans (fa_lt64 _ _)
  have e2 : 0 < lg_cmp x hi ↔ hi.toInt < x.toInt := (lg_cmp_gt _ _).trans (fa_lt64 _ _)
  by_cases c1 : x.toInt < lo.toInt
  · rw [if_pos (e1.mpr c1), if_neg (by omega)]
  · rw [if_neg (fun z => c1 (e1.mp z))]
    by_cases c2 : hi.toInt < x.toInt
    · rw [if_pos (e2.mpr c2), if_neg (by omega)]
    · rw [if_neg (fun z => c2 (e2.mp z)), if_pos (by omega)]
theorem byteAt_ok {K : Kn} {m : Mem} {A q i : Nat} (h : MS K m A) (hq : q < 80) (hi : i < 200) : F_X9_byteAt K m A (nI q) (nI i) = some (gI m (A + 4) (200 * q + i)) := by
  unfold F_X9_byteAt f_X9_byteAt
  rw [h.d3, bind_e, show (200 : Int32) = nI 200 from rfl, pk_mul, nI_add, h.g3 (by omega), bind_e]
theorem mchk_loop {K : Kn} {m : Mem} {A q n : Nat} {by_ : Nat → Nat} (h : MS K m A) (hq : q < 80) (hn : n ≤ 200) (hy : mby m A q by_ n) : ∀ (f i : Nat), i ≤ n → n - i < f → f_X9_checkOf_6 K m A (nI q) (nI n) f (nI (chk by_ i)) (nI i) = some (nI (chk by_ n))
  | 0, _, _, h => absurd h (Nat.not_lt_zero _)
  | f + 1, i, hi, hf => by
    have unf : f_X9_checkOf_6 K m A (nI q) (nI n) (f + 1) (nI (chk by_ i)) (nI i) = f_X9_checkOf_6B K m A (nI q) (nI n) (f_X9_checkOf_6 K m A (nI q) (nI n) f) (nI (chk by_ i)) (nI i) := rfl
    rw [unf]
    unfold f_X9_checkOf_6B
    by_cases c : n ≤ i
    · rw [if_pos ((nI_leI (by omega) (by omega)).mpr c), show i = n by omega]
    · rw [if_neg (fun z => c ((nI_leI (by omega) (by omega)).mp z)), byteAt_ok h hq (by omega), bind_e, (hy i (by omega)).1]
      simp only [bd_e]
      have h1 := chk_lt by_ i
      have h2 := (hy i (by omega)).2
      rw [show (31 : Int32) = nI 31 from rfl, pk_mul, nI_add, show (251 : Int32) = nI 251 from rfl, pk_rem (by omega) (by omega) (by omega), nI_1, Nat.mul_comm 31]
      exact mchk_loop h hq hn hy f (i + 1) (by omega) (by omega)
theorem mchk_ok {K : Kn} {m : Mem} {A q n : Nat} {by_ : Nat → Nat} (h : MS K m A) (hq : q < 80) (hn : n ≤ 200) (hy : mby m A q by_ n) : F_X9_checkOf K m A (nI q) (nI n) = some (nI (chk by_ n)) :=
  mchk_loop h hq hn hy FU 0 (by omega) (by rw [FU_e]; omega)
