/-! ===== the reference reads a point ===== -/
theorem nI_mul (a b : Nat) : nI a * nI b = nI (a * b) := (Int32.ofNat_mul a b).symm
theorem classOf_ok {s : Int} (h1 : -9223372036854775808 ≤ s) (h2 : s < 9223372036854775808) : F_X9_classOf (lZ s) = some (nI (kindA s)) := by
  have e := lZ_toInt h1 h2
  have c0 : lg_cmp (lZ s) (0 : Int64) = 0 ↔ s = 0 := by
    rw [lg0, fa_eq64, e]; rfl
  have i1 : (if (-63 : Int64).toInt ≤ (lZ s).toInt ∧ (lZ s).toInt ≤ (64 : Int64).toInt then (1 : Int32) else 0) = if -63 ≤ s ∧ s ≤ 64 then 1 else 0 := by rw [e]; rfl
  have i2 : (if (-255 : Int64).toInt ≤ (lZ s).toInt ∧ (lZ s).toInt ≤ (256 : Int64).toInt then (1 : Int32) else 0) = if -255 ≤ s ∧ s ≤ 256 then 1 else 0 := by rw [e]; rfl
  have i3 : (if (-2047 : Int64).toInt ≤ (lZ s).toInt ∧ (lZ s).toInt ≤ (2048 : Int64).toInt then (1 : Int32) else 0) = if -2047 ≤ s ∧ s ≤ 2048 then 1 else 0 := by rw [e]; rfl
  unfold F_X9_classOf f_X9_classOf kindA
  rw [in_ok, in_ok, in_ok, bind_e, bind_e, bind_e, i1, i2, i3]
  by_cases d0 : s = 0
  · rw [if_pos (c0.mpr d0), if_pos d0]; rfl
  rw [if_neg (fun z => d0 (c0.mp z)), if_neg d0]
  by_cases d1 : -63 ≤ s ∧ s ≤ 64
  · simp only [if_pos d1]; rfl
  simp only [if_neg d1, if_true]
  by_cases d2 : -255 ≤ s ∧ s ≤ 256
  · simp only [if_pos d2]; rfl
  simp only [if_neg d2, if_true]
  by_cases d3 : -2047 ≤ s ∧ s ≤ 2048
  · simp only [if_pos d3]; rfl
  · simp only [if_neg d3, if_true]; rfl
theorem wideOf_ok {k : Nat} (h : k ≤ 4) : F_X9_wideOf (nI k) = some (nI (cwid k)) := by
  rcases (show k = 0 ∨ k = 1 ∨ k = 2 ∨ k = 3 ∨ k = 4 by omega) with rfl | rfl | rfl | rfl | rfl <;> decide
theorem signsOf_ok {k : Nat} (h : k ≤ 4) : F_X9_signsOf (nI k) = some (nI (kwid k)) := by
  rcases (show k = 0 ∨ k = 1 ∨ k = 2 ∨ k = 3 ∨ k = 4 by omega) with rfl | rfl | rfl | rfl | rfl <;> decide
theorem min31' {a : Nat} (h : a ≤ 64) : F_J9_min_7cf53 (31 : Int32) (nI a) = some (nI (min 31 a)) := by
  unfold F_J9_min_7cf53 f_J9_min_7cf53
  have c : nI a < (31 : Int32) ↔ a < 31 := nI_ltI (b := 31) (by omega) (by omega)
  by_cases h1 : a < 31
  · rw [if_pos (c.mpr h1), show min 31 a = a by omega]
  · rw [if_neg (fun z => h1 (c.mp z)), show min 31 a = 31 by omega]; rfl
theorem aheadOf_ok (x : Int64) : F_X9_aheadOf x = some (nI (leadA x)) := by
  unfold F_X9_aheadOf f_X9_aheadOf
  rw [(lz_x x).1, bind_e, min31' (lz_x x).2.1, bind_e]; rfl
theorem wideAnew_ok {x : Int64} (h : x ≠ 0) : F_X9_wideAnew x = some (nI (widA x)) := by
  unfold F_X9_wideAnew f_X9_wideAnew
  have := widA_e h
  rw [aheadOf_ok, bind_e, (tz_x x).1, bind_e, show (64 : Int32) = nI 64 from rfl, pk_sub (by omega), pk_sub (by omega)]; rfl
theorem wayOf_ok {K : Kn} {m : Mem} {A : Nat} {c : Cs} (h : csM m A c) (hw : winOk c.2.2.2) (x : Int64) : F_X9_wayOf K m A x = some (nI (wayA c.2.2.2 x)) := by
  unfold F_X9_wayOf f_X9_wayOf f_X9_wayOf_72 f_X9_wayOf_73
  by_cases hx : x = 0
  · rw [if_pos ((lg0 x).mpr hx), hx, wayA_0]; rfl
  rw [if_neg (fun z => hx ((lg0 x).mp z)), (lz_x x).1, (tz_x x).1, bind_e, bind_e]
  have h1 := lztz hx
  have h4 := h.2.2.2
  cases hc : c.2.2.2 with
  | none =>
    rw [hc] at h4
    rw [if_pos h4, if_pos rfl, wayA_none hx]; rfl
  | some q =>
    rw [hc] at h4 hw
    obtain ⟨g1, g2, g3⟩ := h4
    have hw : q.1 ≤ 31 ∧ q.1 + q.2 ≤ 63 := hw
    rw [g1, g2, g3, if_neg (by decide), if_pos rfl]
    have hwy : wayA (some q) x = if q.1 ≤ lz x ∧ q.2 ≤ tz x ∧ lz x + tz x ≤ q.1 + q.2 + 11 then 6 else 7 := wayA_some (l := q.1) (tt := q.2) hx
    by_cases a1 : lz x < q.1
    · rw [if_neg (show ¬ (q.1 ≤ lz x ∧ q.2 ≤ tz x ∧ lz x + tz x ≤ q.1 + q.2 + 11) by omega)] at hwy
      rw [if_pos ((nI_ltI (by omega) (by omega)).mpr a1), hwy]; rfl
    rw [if_neg (fun z => a1 ((nI_ltI (by omega) (by omega)).mp z))]
    by_cases a2 : tz x < q.2
    · rw [if_neg (show ¬ (q.1 ≤ lz x ∧ q.2 ≤ tz x ∧ lz x + tz x ≤ q.1 + q.2 + 11) by omega)] at hwy
      rw [if_pos ((nI_ltI (by omega) (by omega)).mpr a2), hwy]; rfl
    rw [if_neg (fun z => a2 ((nI_ltI (by omega) (by omega)).mp z))]
    rw [show (64 : Int32) = nI 64 from rfl, show (11 : Int32) = nI 11 from rfl, pk_sub (by omega), pk_sub (by omega), pk_sub (by omega), pk_sub (by omega), nI_add]
    by_cases a3 : 64 - lz x - tz x + 11 < 64 - q.1 - q.2
    · rw [if_neg (show ¬ (q.1 ≤ lz x ∧ q.2 ≤ tz x ∧ lz x + tz x ≤ q.1 + q.2 + 11) by omega)] at hwy
      rw [if_pos ((nI_ltI (by omega) (by omega)).mpr a3), hwy]; rfl
    · rw [if_pos (show (q.1 ≤ lz x ∧ q.2 ≤ tz x ∧ lz x + tz x ≤ q.1 + q.2 + 11) by omega)] at hwy
      rw [if_neg (fun z => a3 ((nI_ltI (by omega) (by omega)).mp z)), hwy]; rfl
theorem signed_34 {v h : Nat} {k : Int32} (hv : v < 10000) (hh : h < 10000) : f_X9_signed_34 (lN v) k (lN h) = some (lZ (if h < v then (v : Int) - 2 * h else v)) := by
  unfold f_X9_signed_34
  have c : lg_cmp (lN v) (lN h) ≤ 0 ↔ v ≤ h := by
    rw [← lZ_nat, ← lZ_nat, lgZ_le (by omega) (by omega) (by omega) (by omega)]; omega
  by_cases d : h < v
  · rw [if_neg (fun z => by have := c.mp z; omega), if_pos d, show (2 : Int64) = lN 2 from rfl, show lN 2 * lN h = lN (2 * h) from (by rw [lN_mul]), ← lZ_nat, ← lZ_nat, lZ_sub]
    norm_cast
  · rw [if_pos (c.mpr (by omega)), if_neg d, lZ_nat]
theorem signed_ok {k v : Nat} (h1 : 1 ≤ k) (hk : k ≤ 4) (hv : v < 2 ^ cwid k) : F_X9_signed (lN v) (nI k) = some (lZ (sgnA k v)) := by
  unfold F_X9_signed f_X9_signed
  rcases (show k = 1 ∨ k = 2 ∨ k = 3 ∨ k = 4 by omega) with rfl | rfl | rfl | rfl
  · have hv : v < 128 := hv
    rw [if_neg (by decide), if_pos (show nI 1 = 1 from rfl)]
    exact signed_34 (h := 64) (by omega) (by omega)
  · have hv : v < 512 := hv
    rw [if_neg (by decide), if_neg (by decide), if_pos (show nI 2 = 2 from rfl)]
    exact signed_34 (h := 256) (by omega) (by omega)
  · have hv : v < 4096 := hv
    rw [if_neg (by decide), if_neg (by decide), if_neg (by decide)]
    exact signed_34 (h := 2048) (by omega) (by omega)
  · have hv : v < 4294967296 := hv
    rw [if_pos (show nI 4 = 4 from rfl), l2i_lN]
    show some _ = some (lZ (if v < 2147483648 then (v : Int) else (v : Int) - 4294967296))
    by_cases d : v < 2147483648
    · rw [if_pos d, nI_long d, lZ_nat]
    · rw [if_neg d]
      congr 1
      apply Int64.toInt_inj.mp
      rw [Int32.toInt_toInt64, nI_neg (by omega) hv, lZ_toInt (by omega) (by omega)]
theorem sgnA_b {k v : Nat} (hk : k ≤ 4) (hv : v < 2 ^ cwid k) : -2147483648 ≤ sgnA k v ∧ sgnA k v < 2147483648 := by
  rcases (show k = 0 ∨ k = 1 ∨ k = 2 ∨ k = 3 ∨ k = 4 by omega) with rfl | rfl | rfl | rfl | rfl
  · exact ⟨by show (-2147483648 : Int) ≤ 0; decide, by show (0 : Int) < 2147483648; decide⟩
  · have hv : v < 128 := hv
    show _ ≤ (if 64 < v then (v : Int) - 128 else v) ∧ (if 64 < v then (v : Int) - 128 else v) < _
    split <;> omega
  · have hv : v < 512 := hv
    show _ ≤ (if 256 < v then (v : Int) - 512 else v) ∧ (if 256 < v then (v : Int) - 512 else v) < _
    split <;> omega
  · have hv : v < 4096 := hv
    show _ ≤ (if 2048 < v then (v : Int) - 4096 else v) ∧ (if 2048 < v then (v : Int) - 4096 else v) < _
    split <;> omega
  · have hv : v < 4294967296 := hv
    show _ ≤ (if v < 2147483648 then (v : Int) else (v : Int) - 4294967296) ∧ (if v < 2147483648 then (v : Int) else (v : Int) - 4294967296) < _
    split <;> omega
/-- it stands ahead of a point of a block -/
def rM (K : Kn) (m : Mem) (A q n : Nat) (by_ : Nat → Nat) (L : Nat) (c : Cs) : Prop := MS K m A ∧ q < 80 ∧ n ≤ 200 ∧ mby m A q by_ n ∧ L ≤ 8 * (n - 14) ∧ gI m A 29 = nI L ∧ csM m A c ∧ csOk c
theorem gets_at {K : Kn} {m : Mem} {A q n L p w : Nat} {by_ : Nat → Nat} {c : Cs} (h : rM K m A q n by_ L c) (hp : p < 100000) (hw : w ≤ 64) : F_X9_gets K (sI m A 20 (nI p)) A (nI q) (nI w) = some (lN (num (fb by_ L) p w), sI m A 20 (nI (p + w))) := by
  obtain ⟨h1, h2, h3, h4, h5, h6, h7, h8⟩ := h
  have := gets_ok (K := K) (m := sI m A 20 (nI p)) (A := A) (q := q) (n := n) (L := L) (p := p) (w := w) (by_ := by_) (h1.on (fr_sI (W := fun _ _ => True) trivial)) h2 h3 (h4.on (W := fun a _ => a = A) (fr_sI rfl) (fun i _ => by omega)) h5 (by rw [gI_sI_n (Or.inr (by decide))]; exact h6) gI_sI_s hp hw
  rw [sI_sI] at this
  exact this
theorem ro_kind_step {K : Kn} {m : Mem} {A q n L p j N : Nat} {by_ : Nat → Nat} {c : Cs} (h : rM K m A q n by_ L c) (hp : p < 90000) (hj : j < 4) : f_X9_readsOne_2 K A (nI q) (N + 1) (sI m A 20 (nI (p + j))) (nI j) = if fb by_ L (p + j) = 0 then f_X9_readsOne_24 K A (nI q) (sI m A 20 (nI (p + (j + 1)))) (nI j) else f_X9_readsOne_2 K A (nI q) N (sI m A 20 (nI (p + (j + 1)))) (nI (j + 1)) := by
  have unf : ∀ x, f_X9_readsOne_2 K A (nI q) (N + 1) x (nI j) = f_X9_readsOne_2B K A (nI q) (f_X9_readsOne_2 K A (nI q) N) x (nI j) := fun _ => rfl
  rw [unf]
  unfold f_X9_readsOne_2B
  rw [show (4 : Int32) = nI 4 from rfl, if_neg (fun z => by have := (nI_leI (by omega) (by omega)).mp z; omega), show (1 : Int32) = nI 1 from rfl, gets_at h (by omega) (by omega), bind_e]
  dsimp only
  rw [num_one, show (1 : Int64) = lN 1 from rfl, nI_add]
  have hb := fb_lt by_ L (p + j)
  by_cases d : fb by_ L (p + j) = 0
  · rw [if_pos d, if_neg (fun z => by have := (lgN (by omega) (by omega)).mp z; omega)]; rfl
  · rw [if_neg d, if_pos ((lgN (by omega) (by omega)).mpr (by omega))]; rfl
theorem ro_kind {K : Kn} {m : Mem} {A q n L p : Nat} {by_ : Nat → Nat} {c : Cs} (h : rM K m A q n by_ L c) (hp : p < 90000) : f_X9_readsOne_2 K A (nI q) FU (sI m A 20 (nI p)) (0 : Int32) = f_X9_readsOne_24 K A (nI q) (sI m A 20 (nI (p + kwid (kindR (fb by_ L) p)))) (nI (kindR (fb by_ L) p)) := by
  obtain ⟨N, hN⟩ : ∃ N, FU = N + 1 + 1 + 1 + 1 + 1 := ⟨999995, rfl⟩
  rw [hN]
  have s0 := ro_kind_step (N := N + 1 + 1 + 1 + 1) (j := 0) h hp (by omega)
  have s1 := ro_kind_step (N := N + 1 + 1 + 1) (j := 1) h hp (by omega)
  have s2 := ro_kind_step (N := N + 1 + 1) (j := 2) h hp (by omega)
  have s3 := ro_kind_step (N := N + 1) (j := 3) h hp (by omega)
  have s4 : f_X9_readsOne_2 K A (nI q) (N + 1) (sI m A 20 (nI (p + 4))) (nI 4) = f_X9_readsOne_24 K A (nI q) (sI m A 20 (nI (p + 4))) (nI 4) := by
    have unf : ∀ x, f_X9_readsOne_2 K A (nI q) (N + 1) x (nI 4) = f_X9_readsOne_2B K A (nI q) (f_X9_readsOne_2 K A (nI q) N) x (nI 4) := fun _ => rfl
    rw [unf]
    unfold f_X9_readsOne_2B
    rw [if_pos (by decide)]
  have s0 : f_X9_readsOne_2 K A (nI q) (N + 1 + 1 + 1 + 1 + 1) (sI m A 20 (nI p)) (nI 0) = _ := s0
  simp only [Nat.add_zero] at s0
  rw [show (0 : Int32) = nI 0 from rfl, s0, s1, s2, s3, s4]
  unfold kindR
  by_cases c0 : fb by_ L p = 0
  · rw [if_pos c0, if_pos c0]; rfl
  rw [if_neg c0, if_neg c0]
  by_cases c1 : fb by_ L (p + 1) = 0
  · rw [if_pos c1, if_pos c1]; rfl
  rw [if_neg c1, if_neg c1]
  by_cases c2 : fb by_ L (p + 2) = 0
  · rw [if_pos c2, if_pos c2]; rfl
  rw [if_neg c2, if_neg c2]
  by_cases c3 : fb by_ L (p + 3) = 0
  · rw [if_pos c3, if_pos c3]; rfl
  · rw [if_neg c3, if_neg c3]; rfl
theorem ro_24 {K : Kn} {m : Mem} {A q n L p k : Nat} {by_ : Nat → Nat} {c : Cs} (h : rM K m A q n by_ L c) (hp : p < 90000) (hk : k ≤ 4) : f_X9_readsOne_24 K A (nI q) (sI m A 20 (nI p)) (nI k) = f_X9_readsOne_59 K A (nI q) (sI m A 20 (nI (p + cwid k))) (nI k) (lZ (sgnA k (num (fb by_ L) p (cwid k)))) (if kindA (sgnA k (num (fb by_ L) p (cwid k))) = k then 1 else 0) := by
  have hcw : cwid k ≤ 32 := by rcases (show k = 0 ∨ k = 1 ∨ k = 2 ∨ k = 3 ∨ k = 4 by omega) with rfl | rfl | rfl | rfl | rfl <;> decide
  have hnl := num_lt (fb_lt by_ L) p (cwid k)
  have hb := sgnA_b hk hnl
  have e45 : ∀ M, f_X9_readsOne_45 K A (nI q) M (nI k) (lZ (sgnA k (num (fb by_ L) p (cwid k)))) = f_X9_readsOne_59 K A (nI q) M (nI k) (lZ (sgnA k (num (fb by_ L) p (cwid k)))) (if kindA (sgnA k (num (fb by_ L) p (cwid k))) = k then 1 else 0) := fun M => by
    unfold f_X9_readsOne_45
    rw [classOf_ok (by omega) (by omega), bind_e]
    have hka := kindA_le (sgnA k (num (fb by_ L) p (cwid k)))
    by_cases d : kindA (sgnA k (num (fb by_ L) p (cwid k))) = k
    · rw [if_pos ((nI_eq (by omega) (by omega)).mpr d), if_pos d]
    · rw [if_neg (fun z => d ((nI_eq (by omega) (by omega)).mp z)), if_neg d]
  unfold f_X9_readsOne_24
  by_cases d : k = 0
  · subst d
    rw [if_pos (show nI 0 = 0 from rfl)]
    exact e45 _
  · rw [if_neg (fun z => d ((nI_zero (by omega)).mp z)), wideOf_ok hk, bind_e, gets_at h (by omega) (by omega), bind_e]
    dsimp only
    rw [signed_ok (by omega) hk hnl, bind_e, e45]
theorem lsh_zero (s : Int32) : lshl (0 : Int64) s = 0 := by
  unfold lshl
  apply Int64.toBitVec_inj.mp
  rw [Int64.toBitVec_shiftLeft]
  simp
