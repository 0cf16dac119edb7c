/-! ===== the reference reads bits ===== -/
theorem sI_same {m : Mem} {a k : Nat} {v : Int32} (h : gI m a k = v) : sI m a k v = m := by
  obtain ⟨n, fi, fj, frr⟩ := m
  unfold sI
  unfold gI at h
  dsimp only at *
  congr 2
  funext b j
  split
  · rename_i c; rw [c.1, c.2, h]
  · rfl
theorem bit_sh : ∀ b : Fin 256, ∀ s : Fin 8, (nI b.val >>> (nI s.val &&& 31)) &&& (1 : Int32) = nI (b.val / 2 ^ s.val % 2) := by decide +kernel
theorem bitAt_ok {K : Kn} {m : Mem} {A q n p : Nat} {by_ : Nat → Nat} (h : MS K m A) (hq : q < 80) (hn : n ≤ 200) (hy : mby m A q by_ n) (hp : 14 + p / 8 < n) : F_X9_bitAt K m A (nI q) (nI p) = some (nI (ab by_ (112 + p))) := by
  unfold F_X9_bitAt f_X9_bitAt
  rw [show (8 : Int32) = nI 8 from rfl, show (14 : Int32) = nI 14 from rfl, pk_rem (by omega) (by omega) (by omega), pk_div (by omega) (by omega) (by omega), nI_add, byteAt_ok h hq (by omega), bind_e, (hy _ hp).1, show (7 : Int32) = nI 7 from rfl, pk_sub (by omega)]
  have := bit_sh ⟨by_ (14 + p / 8), (hy _ hp).2⟩ ⟨7 - p % 8, by omega⟩
  dsimp only at this
  rw [this]
  unfold ab
  rw [show (112 + p) / 8 = 14 + p / 8 by omega, show (112 + p) % 8 = p % 8 by omega]
theorem bit_long {b : Nat} (h : b < 2) : (nI b).toInt64 = lN b := nI_long (by omega)
theorem gets_loop {K : Kn} {m : Mem} {A q n L p w : Nat} {by_ : Nat → Nat} (h : MS K m A) (hq : q < 80) (hn : n ≤ 200) (hy : mby m A q by_ n) (hL : L ≤ 8 * (n - 14)) (h29 : gI m A 29 = nI L) (hp : p < 100000) (hw : w ≤ 64) : ∀ (f k : Nat), k ≤ w → w - k < f → f_X9_gets_5 K A (nI q) (nI w) f (sI m A 20 (nI (p + k))) (lN (num (fb by_ L) p k)) (nI k) = some (lN (num (fb by_ L) p w), sI m A 20 (nI (p + w)))
  | 0, _, _, h => absurd h (Nat.not_lt_zero _)
  | f + 1, k, hk, hf => by
    have unf : ∀ x y, f_X9_gets_5 K A (nI q) (nI w) (f + 1) x y (nI k) = f_X9_gets_5B K A (nI q) (nI w) (f_X9_gets_5 K A (nI q) (nI w) f) x y (nI k) := fun _ _ => rfl
    rw [unf]
    unfold f_X9_gets_5B f_X9_gets_38
    by_cases c : w ≤ k
    · rw [if_pos ((nI_leI (by omega) (by omega)).mpr c), show k = w by omega]
    · rw [if_neg (fun z => c ((nI_leI (by omega) (by omega)).mp z)), gI_sI_s, gI_sI_n (Or.inr (by decide)), h29]
      simp only [bd_e]
      have hnl := num_lt (fb_lt by_ L) p k
      have hk64 : 2 ^ (k + 1) ≤ 2 ^ 64 := Nat.pow_le_pow_right (by decide) (by omega)
      rw [Nat.pow_succ] at hk64
      have hfb := fb_lt by_ L (p + k)
      have step : ∀ b : Nat, b = fb by_ L (p + k) → f_X9_gets_5 K A (nI q) (nI w) f (sI (sI m A 20 (nI (p + k))) A 20 (nI (p + k) + (1 : Int32))) (lshl (lN (num (fb by_ L) p k)) (1 : Int32) ||| (nI b).toInt64) (nI k + (1 : Int32)) = some (lN (num (fb by_ L) p w), sI m A 20 (nI (p + w))) := fun b hb => by
        subst hb
        have := gets_loop h hq hn hy hL h29 hp hw f (k + 1) (by omega) (by omega)
        rw [sI_sI, nI_1, nI_1, show (1 : Int32) = nI 1 from rfl, lshN _ (by omega), bit_long hfb, Nat.pow_one, g_or (k := 1) (p := 2) rfl hfb (by omega)]
        rw [num_add, num_one, Nat.pow_one] at this
        exact this
      by_cases c1 : L ≤ p + k
      · rw [if_pos ((nI_leI (by omega) (by omega)).mpr c1)]
        exact step 0 (fb_out c1).symm
      · rw [if_neg (fun z => c1 ((nI_leI (by omega) (by omega)).mp z)), bitAt_ok (n := n) (by_ := by_) (h.on (fr_sI (W := fun _ _ => True) trivial)) hq hn (hy.on (W := fun a _ => a = A) (fr_sI rfl) (fun i _ => by omega)) (by omega), bind_e, ← fb_in (L := L) (by omega)]
        exact step _ rfl
theorem gets_ok {K : Kn} {m : Mem} {A q n L p w : Nat} {by_ : Nat → Nat} (h : MS K m A) (hq : q < 80) (hn : n ≤ 200) (hy : mby m A q by_ n) (hL : L ≤ 8 * (n - 14)) (h29 : gI m A 29 = nI L) (h20 : gI m A 20 = nI p) (hp : p < 100000) (hw : w ≤ 64) : F_X9_gets K m A (nI q) (nI w) = some (lN (num (fb by_ L) p w), sI m A 20 (nI (p + w))) := by
  unfold F_X9_gets f_X9_gets
  have := gets_loop h hq hn hy hL h29 hp hw FU 0 (by omega) (by rw [FU_e]; omega)
  rw [Nat.add_zero, sI_same h20] at this
  exact this
theorem hst_loop {K : Kn} {m : Mem} {A q n : Nat} {by_ : Nat → Nat} (h : MS K m A) (hq : q < 80) (hn : n ≤ 200) (hy : mby m A q by_ n) (h14 : 14 ≤ n) : ∀ (f k : Nat), k ≤ 4 → 4 - k < f → f_X9_headStamp_5 K m A (nI q) f (lN (num (ab by_) 0 (8 * k))) (nI k) = some (lN (hst by_))
  | 0, _, _, h => absurd h (Nat.not_lt_zero _)
  | f + 1, k, hk, hf => by
    have unf : ∀ x, f_X9_headStamp_5 K m A (nI q) (f + 1) x (nI k) = f_X9_headStamp_5B K m A (nI q) (f_X9_headStamp_5 K m A (nI q) f) x (nI k) := fun _ => rfl
    rw [unf]
    unfold f_X9_headStamp_5B
    rw [show (4 : Int32) = nI 4 from rfl]
    by_cases c : 4 ≤ k
    · rw [if_pos ((nI_leI (by omega) (by omega)).mpr c), show k = 4 by omega]; rfl
    · rw [if_neg (fun z => c ((nI_leI (by omega) (by omega)).mp z)), byteAt_ok h hq (by omega), bind_e, (hy k (by omega)).1]
      simp only [bd_e]
      have hb := (hy k (by omega)).2
      have hnl := num_lt (ab_lt by_) 0 (8 * k)
      have h64 : 2 ^ (8 * k) ≤ 2 ^ 24 := Nat.pow_le_pow_right (by decide) (by omega)
      have := hst_loop h hq hn hy h14 f (k + 1) (by omega) (by omega)
      rw [show 8 * (k + 1) = 8 * k + 8 by omega, num_add, Nat.zero_add, num_ab8 hb] at this
      rw [show (8 : Int32) = nI 8 from rfl, lshN _ (by omega), nI_long (by omega), g_or (k := 8) (p := 2 ^ 8) rfl (by omega) (by omega), nI_1]
      exact this
theorem headStamp_ok {K : Kn} {m : Mem} {A q n : Nat} {by_ : Nat → Nat} (h : MS K m A) (hq : q < 80) (hn : n ≤ 200) (hy : mby m A q by_ n) (h14 : 14 ≤ n) : F_X9_headStamp K m A (nI q) = some (lN (hst by_)) :=
  hst_loop h hq hn hy h14 FU 0 (by omega) (by rw [FU_e]; omega)
theorem hvl_loop {K : Kn} {m : Mem} {A q n : Nat} {by_ : Nat → Nat} (h : MS K m A) (hq : q < 80) (hn : n ≤ 200) (hy : mby m A q by_ n) (h14 : 14 ≤ n) : ∀ (f k : Nat), k ≤ 8 → 8 - k < f → f_X9_headBits_5 K m A (nI q) f (lN (num (ab by_) 32 (8 * k))) (nI (4 + k)) = some (hvl by_)
  | 0, _, _, h => absurd h (Nat.not_lt_zero _)
  | f + 1, k, hk, hf => by
    have unf : ∀ x, f_X9_headBits_5 K m A (nI q) (f + 1) x (nI (4 + k)) = f_X9_headBits_5B K m A (nI q) (f_X9_headBits_5 K m A (nI q) f) x (nI (4 + k)) := fun _ => rfl
    rw [unf]
    unfold f_X9_headBits_5B
    rw [show (12 : Int32) = nI 12 from rfl]
    by_cases c : 12 ≤ 4 + k
    · rw [if_pos ((nI_leI (by omega) (by omega)).mpr c), show k = 8 by omega]; rfl
    · rw [if_neg (fun z => c ((nI_leI (by omega) (by omega)).mp z)), byteAt_ok h hq (by omega), bind_e, (hy (4 + k) (by omega)).1]
      simp only [bd_e]
      have hb := (hy (4 + k) (by omega)).2
      have hnl := num_lt (ab_lt by_) 32 (8 * k)
      have h64 : 2 ^ (8 * k) ≤ 2 ^ 56 := Nat.pow_le_pow_right (by decide) (by omega)
      have := hvl_loop h hq hn hy h14 f (k + 1) (by omega) (by omega)
      rw [show 8 * (k + 1) = 8 * k + 8 by omega, num_add, show 32 + 8 * k = 8 * (4 + k) by omega, num_ab8 hb] at this
      rw [show (8 : Int32) = nI 8 from rfl, lshN _ (by omega), nI_long (by omega), g_or (k := 8) (p := 2 ^ 8) rfl (by omega) (by omega), nI_1]
      exact this
theorem headBits_ok {K : Kn} {m : Mem} {A q n : Nat} {by_ : Nat → Nat} (h : MS K m A) (hq : q < 80) (hn : n ≤ 200) (hy : mby m A q by_ n) (h14 : 14 ≤ n) : F_X9_headBits K m A (nI q) = some (hvl by_) :=
  hvl_loop h hq hn hy h14 FU 0 (by omega) (by rw [FU_e]; omega)
/-- the point ahead stands at hand -/
def csM (m : Mem) (A : Nat) (c : Cs) : Prop := gJ m A 14 = lN c.1 ∧ gJ m A 15 = lN c.2.1 ∧ gJ m A 16 = c.2.2.1 ∧ (match c.2.2.2 with
  | none => gI m A 19 = 0
  | some w => gI m A 19 = 1 ∧ gI m A 17 = nI w.1 ∧ gI m A 18 = nI w.2)
theorem csM.on {W : Nat → Nat → Prop} {m m' : Mem} {A : Nat} {c : Cs} (h : csM m A c) (e : fr W m m') (hw : ∀ k, 14 ≤ k → k ≤ 19 → ¬ W A k) : csM m' A c := by
  obtain ⟨h1, h2, h3, h4⟩ := h
  refine ⟨(e.J (hw _ (by omega) (by omega))).trans h1, (e.J (hw _ (by omega) (by omega))).trans h2, (e.J (hw _ (by omega) (by omega))).trans h3, ?_⟩
  cases hc : c.2.2.2 with
  | none => rw [hc] at h4; exact (e.I (hw _ (by omega) (by omega))).trans h4
  | some w =>
    rw [hc] at h4
    exact ⟨(e.I (hw _ (by omega) (by omega))).trans h4.1, (e.I (hw _ (by omega) (by omega))).trans h4.2.1, (e.I (hw _ (by omega) (by omega))).trans h4.2.2⟩
/-- cells of the point at hand -/
def WC (A : Nat) : Nat → Nat → Prop := fun a k => a = A ∧ 14 ≤ k ∧ k ≤ 20
theorem heads_ok {K : Kn} {m : Mem} {A t : Nat} {v : Int64} : ∃ m', F_X9_heads K m A (lN t) v = some m' ∧ csM m' A (t, 0, v, none) ∧ gI m' A 20 = nI 0 ∧ fr (WC A) m m' := by
  unfold F_X9_heads f_X9_heads
  simp only [bd_e]
  refine ⟨_, rfl, ⟨?_, ?_, ?_, ?_⟩, gI_sI_s, ?_⟩
  · simp only [gJ_sI]
    rw [gJ_sJ_n (Or.inr (by decide)), gJ_sJ_n (Or.inr (by decide)), gJ_sJ_s]
  · simp only [gJ_sI]
    rw [gJ_sJ_n (Or.inr (by decide)), gJ_sJ_s]; rfl
  · simp only [gJ_sI]
    rw [gJ_sJ_s]
  · show gI _ A 19 = 0
    rw [gI_sI_n (Or.inr (by decide)), gI_sI_n (Or.inr (by decide)), gI_sI_n (Or.inr (by decide)), gI_sI_s]
  · exact ((((((fr_sJ ⟨rfl, by omega, by omega⟩).trans (fr_sJ ⟨rfl, by omega, by omega⟩)).trans (fr_sJ ⟨rfl, by omega, by omega⟩)).trans (fr_sI ⟨rfl, by omega, by omega⟩)).trans (fr_sI ⟨rfl, by omega, by omega⟩)).trans (fr_sI ⟨rfl, by omega, by omega⟩)).trans (fr_sI ⟨rfl, by omega, by omega⟩)
