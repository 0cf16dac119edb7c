/-! ===== the reference reads a block ===== -/
def genX (by_ : Nat → Nat) (L : Nat) : (Nat × Int) ⊕ (Nat × Cs × List PtR) := if hct by_ = 0 then .inl (5, 0) else if 2000000000 < hst by_ then .inl (3, 0) else exRest by_ L (rdN (fb by_ L) L (cs0 by_) (hct by_ - 1))
theorem hst_lt (by_ : Nat → Nat) : hst by_ < 4294967296 := num_lt (ab_lt by_) 0 32
theorem hct_lt (by_ : Nat → Nat) : hct by_ < 65536 := num_lt (ab_lt by_) 96 16
theorem ra_106 {K : Kn} {m : Mem} {A q n L : Nat} {by_ : Nat → Nat} (h : MS K m A) (hq : q < 80) (hn : n ≤ 200) (hy : mby m A q by_ n) (h14 : 14 ≤ n) (hL : L ≤ 8 * (n - 14)) (h26 : gI m A 26 = 0) (h27 : gI m A 27 = 0) (h28 : gI m A 28 = iZ (-1)) : ∃ m', f_X9_readsAll_106 K A (nI q) m A (nI L) = some m' ∧ fr (WQ A q) m m' ∧ rdRes m' A q (genX by_ L) := by
  unfold f_X9_readsAll_106
  rw [bd_e]
  have f1 : fr (fun a k => a = A ∧ k = 29) m (sI m A 29 (nI L)) := fr_sI ⟨rfl, rfl⟩
  have hS1 := h.on f1
  have hy1 := hy.on f1 (fun i _ z => by omega)
  have g26 : gI (sI m A 29 (nI L)) A 26 = 0 := (gI_sI_n (Or.inr (by decide))).trans h26
  have g27 : gI (sI m A 29 (nI L)) A 27 = 0 := (gI_sI_n (Or.inr (by decide))).trans h27
  have g28 : gI (sI m A 29 (nI L)) A 28 = iZ (-1) := (gI_sI_n (Or.inr (by decide))).trans h28
  have g29 : gI (sI m A 29 (nI L)) A 29 = nI L := gI_sI_s
  generalize sI m A 29 (nI L) = m1 at f1 hS1 hy1 g26 g27 g28 g29 ⊢
  have b12 := hy1 12 (by omega)
  have b13 := hy1 13 (by omega)
  rw [show (12 : Int32) = nI 12 from rfl, show (13 : Int32) = nI 13 from rfl, byteAt_ok hS1 hq (by omega), bind_e, byteAt_ok hS1 hq (by omega), bind_e, b12.1, b13.1, bd_e, show (256 : Int32) = nI 256 from rfl, nI_mul, nI_add, ← hct_e b12.2 b13.2, headStamp_ok hS1 hq hn hy1 h14, bind_e, headBits_ok hS1 hq hn hy1 h14, bind_e]
  obtain ⟨m2, e1, e2, e3, e4⟩ := heads_ok (K := K) (m := m1) (A := A) (t := hst by_) (v := hvl by_)
  rw [e1, bind_e]
  have hS2 := hS1.on e4
  have hc16 := hct_lt by_
  have hs32 := hst_lt by_
  have f2 : fr (WQ A q) m m2 := (f1.mono (fun a k z => Or.inl ⟨z.1, by omega⟩)).trans (e4.mono (fun a k z => WC_WQ z))
  have k26 : gI m2 A 26 = 0 := (e4.I (fun z => by unfold WC at z; omega)).trans g26
  have k27 : gI m2 A 27 = 0 := (e4.I (fun z => by unfold WC at z; omega)).trans g27
  have k28 : gI m2 A 28 = iZ (-1) := (e4.I (fun z => by unfold WC at z; omega)).trans g28
  have k29 : gI m2 A 29 = nI L := (e4.I (fun z => by unfold WC at z; omega)).trans g29
  have hy2 := hy1.on e4 (fun i _ z => by unfold WC at z; omega)
  unfold genX
  have bad : ∀ x : Nat, ∃ m', f_X9_readsAll_168 K A (nI q) m2 A (nI x) = some m' ∧ fr (WQ A q) m m' ∧ rdRes m' A q (.inl (x, 0)) := fun x => by
    unfold f_X9_readsAll_168
    obtain ⟨m3, q1, q2, q3, q4⟩ := faults_ok (K := K) (m := m2) (A := A) (x := nI x) (y := 0)
    rw [q1, bind_e]
    exact ⟨m3, rfl, f2.trans (q4.mono (fun a k z => Or.inl ⟨z.1, by omega⟩)), q2, q3⟩
  by_cases d0 : hct by_ = 0
  · rw [if_pos d0, if_pos ((nI_zero (by omega)).mpr d0)]
    unfold f_X9_readsAll_158
    rw [if_pos ((nI_zero (by omega)).mpr d0)]
    exact bad 5
  rw [if_neg d0, if_neg (fun z => d0 ((nI_zero (by omega)).mp z)), e2.1]
  have i1 : lg_cmp (lN (hst by_)) (2000000000 : Int64) ≤ 0 ↔ hst by_ ≤ 2000000000 := by
    rw [show (2000000000 : Int64) = lZ ((2000000000 : Nat) : Int) from rfl, ← lZ_nat, lgZ_le (by omega) (by omega) (by omega) (by omega)]; omega
  by_cases d1 : 2000000000 < hst by_
  · rw [if_pos d1, if_neg (fun z => by have := i1.mp z; omega)]
    unfold f_X9_readsAll_158
    rw [if_neg (fun z => d0 ((nI_zero (by omega)).mp z))]
    exact bad 3
  rw [if_neg d1, if_pos (i1.mpr (by omega)), show (0 : Int32) = nI 0 from rfl, hS2.d25, bind_e, hS2.s25 (by omega), bind_e]
  have fa : fr (fun a k => a = A + 18) m2 (sI m2 (A + 18) 0 (-1)) := fr_sI rfl
  have hS3 := hS2.on fa
  rw [hS3.d24, bind_e, hS3.s24 (by omega), bind_e]
  have fb_ : fr (fun a k => a = A + 18 ∨ a = A + 17) m2 (sI (sI m2 (A + 18) 0 (-1)) (A + 17) 0 (-1)) := (fa.mono (fun _ _ z => Or.inl z)).trans (fr_sI (Or.inr rfl))
  generalize sI (sI m2 (A + 18) 0 (-1)) (A + 17) 0 (-1) = m3 at fb_ ⊢
  have hS4 := hS2.on fb_
  obtain ⟨m4, q1, q2, q3, q4, q5, q6⟩ := keepsOne_ok (K := K) (A := A) (r := 0) (x := nI 0) hS4 ((fb_.I (fun z => by omega)).trans k26) (by omega)
  rw [q1, bind_e]
  have c3 : csM m3 A (cs0 by_) := e2.on fb_ (fun k _ _ z => by omega)
  have hcok := cs0_ok (by_ := by_) (by omega)
  have hr4 : rM K m4 A q n by_ L (cs0 by_) := ⟨hS4.on q6, hq, hn, (hy2.on fb_ (fun i _ z => by omega)).on q6 (fun i _ z => by unfold WK at z; omega), hL, (q6.I (fun z => by unfold WK at z; omega)).trans ((fb_.I (fun z => by omega)).trans k29), c3.on q6 (fun k _ _ z => by unfold WK at z; omega), hcok⟩
  obtain ⟨m5, r1, r2, r3⟩ := ra_192 (many := hct by_) hc16 (by omega) (by omega) FU m4 0 0 (cs0 by_) [((cs0 by_).1, (cs0 by_).2.2.1, 0, 9, 9)] (by omega) (by rw [FU_e]; omega) hr4 rfl ((q6.I (fun z => by unfold WK at z; omega)).trans ((fb_.I (fun z => by omega)).trans e3)) q5 ((q6.I (fun z => by unfold WK at z; omega)).trans ((fb_.I (fun z => by omega)).trans k27)) ((q6.I (fun z => by unfold WK at z; omega)).trans ((fb_.I (fun z => by omega)).trans k28)) (fun i x hx => by
    cases i with
    | zero =>
      cases hx
      exact ⟨q2.trans c3.1, q3.trans c3.2.2.1, fun z => by omega⟩
    | succ i => cases hx)
  exact ⟨m5, r1, ((f2.trans (fb_.mono (fun a k z => Or.inr (Or.inl (by omega))))).trans (q6.mono (fun a k z => WK_WQ z))).trans r2, r3⟩
theorem exS_gen {by_ : Nat → Nat} {size : Nat} (h : ¬ (size < 15 ∨ by_ (size - 1) ≠ chk by_ (size - 1))) : exS by_ size = genX by_ (8 * (size - 15)) := by
  unfold exS genX
  rw [if_neg h]
  by_cases c1 : hct by_ = 0
  · rw [if_pos c1, if_pos c1]
  rw [if_neg c1, if_neg c1]
  by_cases c2 : 2000000000 < hst by_
  · rw [if_pos c2, if_pos c2]
  rw [if_neg c2, if_neg c2]
  unfold exRest
  cases rdN (fb by_ (8 * (size - 15))) (8 * (size - 15)) (cs0 by_) (hct by_ - 1) <;> rfl
/-- all of a sealed block -/
theorem readsAll_s {K : Kn} {m : Mem} {A q size : Nat} {by_ : Nat → Nat} (h : MS K m A) (hq : q < 80) (hn : size ≤ 200) (hy : mby m A q by_ size) (h5 : gI m (A + 5) q = nI size) (h7 : gI m (A + 7) q = 1) : ∃ m', F_X9_readsAll K m A (nI q) = some m' ∧ fr (WQ A q) m m' ∧ rdRes m' A q (exS by_ size) := by
  unfold F_X9_readsAll f_X9_readsAll
  obtain ⟨m1, e1, e2, e3, e4⟩ := faults_ok (K := K) (m := m) (A := A) (x := 0) (y := -1)
  rw [e1, bind_e, bd_e]
  have f1 : fr (fun a k => a = A ∧ 26 ≤ k ∧ k ≤ 29) m (sI m1 A 26 0) := (e4.mono (fun a k z => ⟨z.1, by omega⟩)).trans (fr_sI ⟨rfl, by omega, by omega⟩)
  have g26 : gI (sI m1 A 26 0) A 26 = 0 := gI_sI_s
  have g27 : gI (sI m1 A 26 0) A 27 = 0 := (gI_sI_n (Or.inr (by decide))).trans e2
  have g28 : gI (sI m1 A 26 0) A 28 = iZ (-1) := (gI_sI_n (Or.inr (by decide))).trans e3
  generalize sI m1 A 26 0 = m2 at f1 g26 g27 g28 ⊢
  have hS := h.on f1
  have hy2 := hy.on f1 (fun i _ z => by omega)
  have k5 := (f1.I (fun z => by omega)).trans h5
  have k7 := (f1.I (fun z => by omega)).trans h7
  have f2 : fr (WQ A q) m m2 := f1.mono (fun a k z => Or.inl ⟨z.1, Or.inr z.2⟩)
  unfold f_X9_readsAll_37 f_X9_readsAll_80
  simp only [hS.d6, bind_e, hS.g6 hq, k7, if_neg (show ¬ ((1 : Int32) = 0) by decide), hS.d4, hS.g4 hq, k5]
  rw [show (15 : Int32) = nI 15 from rfl]
  have bad : ∃ m', f_X9_readsAll_73 K A (nI q) m2 = some m' ∧ fr (WQ A q) m m' ∧ rdRes m' A q (.inl (1, -1)) := by
    unfold f_X9_readsAll_73
    obtain ⟨m3, q1, q2, q3, q4⟩ := faults_ok (K := K) (m := m2) (A := A) (x := 1) (y := -1)
    rw [q1, bind_e]
    exact ⟨m3, rfl, f2.trans (q4.mono (fun a k z => Or.inl ⟨z.1, by omega⟩)), q2, q3⟩
  by_cases d : size < 15
  · rw [if_pos ((nI_ltI (by omega) (by omega)).mpr d)]
    unfold exS
    rw [if_pos (Or.inl d)]
    exact bad
  rw [if_neg (fun z => d ((nI_ltI (by omega) (by omega)).mp z)), show (1 : Int32) = nI 1 from rfl, pk_sub (by omega), byteAt_ok hS hq (by omega), bind_e, mchk_ok hS hq (by omega) (hy2.less (show size - 1 ≤ size by omega)), bind_e, (hy2 (size - 1) (by omega)).1]
  have hb := (hy2 (size - 1) (by omega)).2
  have hc := chk_lt by_ (size - 1)
  by_cases d2 : by_ (size - 1) = chk by_ (size - 1)
  · rw [if_pos (by rw [d2]), exS_gen (by omega), show (14 : Int32) = nI 14 from rfl, show (8 : Int32) = nI 8 from rfl, pk_sub (by omega), nI_mul, show size - 1 - 14 = size - 15 by omega]
    obtain ⟨m', r1, r2, r3⟩ := ra_106 (L := 8 * (size - 15)) hS hq (by omega) (hy2.less (show size - 1 ≤ size by omega)) (by omega) (by omega) g26 g27 g28
    exact ⟨m', r1, f2.trans r2, r3⟩
  · rw [if_neg (fun z => d2 ((nI_eq (by omega) (by omega)).mp z))]
    unfold exS
    rw [if_pos (Or.inr d2)]
    exact bad
/-- all of an open one -/
theorem readsAll_o {K : Kn} {m : Mem} {A q size p : Nat} {by_ : Nat → Nat} {c : Cs} {l : List PtR} (h : MS K m A) (hq : q < 80) (hn : size ≤ 200) (hy : mby m A q by_ size) (h5 : gI m (A + 5) q = nI size) (h7 : gI m (A + 7) q = 0) (h6 : gI m (A + 6) q = nI p) (ho : opn by_ size p c l) : ∃ m', F_X9_readsAll K m A (nI q) = some m' ∧ fr (WQ A q) m m' ∧ rdRes m' A q (.inr (p, c, l)) := by
  unfold F_X9_readsAll f_X9_readsAll
  obtain ⟨m1, e1, e2, e3, e4⟩ := faults_ok (K := K) (m := m) (A := A) (x := 0) (y := -1)
  rw [e1, bind_e, bd_e]
  have f1 : fr (fun a k => a = A ∧ 26 ≤ k ∧ k ≤ 29) m (sI m1 A 26 0) := (e4.mono (fun a k z => ⟨z.1, by omega⟩)).trans (fr_sI ⟨rfl, by omega, by omega⟩)
  have g26 : gI (sI m1 A 26 0) A 26 = 0 := gI_sI_s
  have g27 : gI (sI m1 A 26 0) A 27 = 0 := (gI_sI_n (Or.inr (by decide))).trans e2
  have g28 : gI (sI m1 A 26 0) A 28 = iZ (-1) := (gI_sI_n (Or.inr (by decide))).trans e3
  generalize sI m1 A 26 0 = m2 at f1 g26 g27 g28 ⊢
  have hS := h.on f1
  have hy2 := hy.on f1 (fun i _ z => by omega)
  have k5 := (f1.I (fun z => by omega)).trans h5
  have k7 := (f1.I (fun z => by omega)).trans h7
  have k6 := (f1.I (fun z => by omega)).trans h6
  have f2 : fr (WQ A q) m m2 := f1.mono (fun a k z => Or.inl ⟨z.1, Or.inr z.2⟩)
  unfold f_X9_readsAll_37 f_X9_readsAll_80
  simp only [hS.d6, bind_e, hS.g6 hq, k7, hS.d4, hS.g4 hq, hS.d5, hS.g5 hq, k6, if_true]
  obtain ⟨o1, o2, o3, o4, o5, o6⟩ := ho
  have eg : genX by_ p = .inr (p, c, l) := by
    unfold genX
    rw [if_neg (by omega), if_neg (by omega), o1]
    unfold exRest
    dsimp only
    rw [if_neg]
    rw [Nat.sub_self]
    intro z
    rcases z with z | z
    · omega
    · exact z rfl
  obtain ⟨m', r1, r2, r3⟩ := ra_106 (L := p) hS hq hn hy2 (by omega) (by omega) g26 g27 g28
  rw [eg] at r3
  exact ⟨m', r1, f2.trans r2, r3⟩
/-- the reference's block at a place -/
def mbR (m : Mem) (A q : Nat) (b : Bk) : Prop := (∀ i, i < b.2.1 → gI m (A + 4) (200 * q + i) = nI (b.1 i)) ∧ gI m (A + 5) q = nI b.2.1 ∧ gI m (A + 7) q = (if b.2.2.1 = true then 1 else 0) ∧ (b.2.2.1 = true → gI m (A + 8) q = nI b.2.2.2.1 ∧ gI m (A + 9) q = nI b.2.2.2.2) ∧ (b.2.2.1 = false → ∀ p c l, rsB b = .inr (p, c, l) → gI m (A + 6) q = nI p)
theorem mbR.by {m : Mem} {A q : Nat} {b : Bk} (h : mbR m A q b) (hb : bkOk b) : mby m A q b.1 b.2.1 := fun i hi => ⟨h.1 i hi, hb.1 i hi⟩
theorem exS_hst {by_ : Nat → Nat} {size : Nat} {r : Nat × Cs × List PtR} (h : exS by_ size = .inr r) : hst by_ ≤ 2000000000 ∧ ∃ x l', r.2.2 = x :: l' ∧ x.1 = hst by_ ∧ csOk r.2.1 := by
  unfold exS at h
  split at h
  · cases h
  split at h
  · cases h
  split at h
  · cases h
  rename_i c1 c2 c3
  cases hr : rdN (fb by_ (8 * (size - 15))) (8 * (size - 15)) (cs0 by_) (hct by_ - 1) with
  | inl e => rw [hr] at h; cases h
  | inr r' =>
    rw [hr] at h
    dsimp only at h
    split at h
    · cases h
    · cases h
      obtain ⟨p, c, l⟩ := r
      have hcok := cs0_ok (by_ := by_) (by omega)
      obtain ⟨-, -, ⟨x, l', g1, g2, -⟩, -⟩ := rdN_sorted hcok _ hr
      exact ⟨by omega, x, l', g1, g2, (rdN_facts hcok _ hr).1⟩
theorem reads_ok {K : Kn} {m : Mem} {A q : Nat} {b : Bk} (h : MS K m A) (hq : q < 80) (hb : bkOk b) (hm : mbR m A q b) : ∃ m', F_X9_reads K m A (nI q) = some m' ∧ fr (WQ A q) m m' ∧ rdRes m' A q (rsB b) := by
  have hy := hm.by hb
  obtain ⟨h1, h5, h7, h8, h6⟩ := hm
  obtain ⟨b1, b2, b3, b4, b5, b6, b7⟩ := hb
  unfold F_X9_reads f_X9_reads
  cases hs : b.2.2.1 with
  | false =>
    rw [hs, if_neg (by decide)] at h7
    obtain ⟨-, p, c, l, ho, -⟩ := b5 hs
    have hrs := opn_rs hs ho
    have := h6 hs p c l hrs
    obtain ⟨m', r1, r2, r3⟩ := readsAll_o h hq b3 hy h5 h7 this ho
    rw [r1, bind_e, hrs]
    have hS := h.on r2
    have k7 : gI m' (A + 7) q = 0 := (r2.I (fun z => by unfold WQ at z; omega)).trans h7
    rw [if_pos r3.1, hS.d6, bind_e, hS.g6 hq, bind_e, k7, if_pos rfl]
    exact ⟨m', rfl, r2, r3⟩
  | true =>
    rw [hs, if_pos rfl] at h7
    obtain ⟨g8, g9⟩ := h8 hs
    obtain ⟨m', r1, r2, r3⟩ := readsAll_s h hq b3 hy h5 h7
    rw [r1, bind_e]
    have hS := h.on r2
    have k7 : gI m' (A + 7) q = 1 := (r2.I (fun z => by unfold WQ at z; omega)).trans h7
    have k8 := (r2.I (fun z => by unfold WQ at z; omega)).trans g8
    have k9 := (r2.I (fun z => by unfold WQ at z; omega)).trans g9
    unfold rsB
    rw [if_pos hs]
    unfold exK
    cases hx : exS b.1 b.2.1 with
    | inl e =>
      rw [hx] at r3
      have e1 : gI m' A 27 ≠ 0 := by
        rw [r3.1]
        have hk : exK b.1 b.2.1 b.2.2.2.1 b.2.2.2.2 = .inl e := by unfold exK; rw [hx]
        have hp := exK_pos hk
        have hr : rsB b = .inl e := by unfold rsB; rw [if_pos hs, hk]
        have hlt := (rs_inl ⟨b1, b2, b3, b4, b5, b6, b7⟩ hr).2.2
        intro z
        exact hp ((nI_zero (by omega)).mp z)
      rw [if_neg e1]
      exact ⟨m', rfl, r2, r3⟩
    | inr r =>
      rw [hx] at r3
      obtain ⟨t0, x, l', t1, t2, t3⟩ := exS_hst hx
      obtain ⟨a1, a2, a3, a4, a5, a6, a7⟩ := r3
      have a0 : gJ m' (A + 14) 0 = lN (hst b.1) := by
        have := (a7 0 x (by rw [t1]; rfl)).1
        rw [t2] at this
        exact this
      have hc1 := t3.1
      rw [if_pos a1, hS.d6, bind_e, hS.g6 hq, bind_e, k7, if_neg (by decide), hS.d21, bind_e, show alJ K m' (A + 14) (0 : Int32) = some (gJ m' (A + 14) 0) from hS.g21 (i := 0) (by omega), bind_e, a0, hS.d7, bind_e, hS.g7 hq, bind_e, k8, hS.d8, bind_e, hS.g8 hq, bind_e, k9, a4.1, nI_long (by omega), nI_long (by omega)]
      have i1 : lg_cmp (lN (hst b.1)) (lN b.2.2.2.1) = 0 ↔ hst b.1 = b.2.2.2.1 := lgN (by omega) (by omega)
      have i2 : lg_cmp (lN r.2.1.1) (lN b.2.2.2.2) = 0 ↔ r.2.1.1 = b.2.2.2.2 := lgN (by omega) (by omega)
      dsimp only
      have bad : ∃ m'', f_X9_reads_53 K A (nI q) m' = some m'' ∧ fr (WQ A q) m m'' ∧ rdRes m'' A q (.inl (7, 0)) := by
        unfold f_X9_reads_53
        obtain ⟨m3, q1, q2, q3, q4⟩ := faults_ok (K := K) (m := m') (A := A) (x := 7) (y := 0)
        rw [q1, bind_e]
        exact ⟨m3, rfl, r2.trans (q4.mono (fun a k z => Or.inl ⟨z.1, by omega⟩)), q2, q3⟩
      by_cases d1 : hst b.1 = b.2.2.2.1
      · rw [if_pos (i1.mpr d1)]
        by_cases d2 : r.2.1.1 = b.2.2.2.2
        · rw [if_pos (i2.mpr d2), if_neg (fun z => by rcases z with z | z; exact z d1; exact z d2)]
          exact ⟨m', rfl, r2, a1, a2, a3, a4, a5, a6, a7⟩
        · rw [if_neg (fun z => d2 (i2.mp z)), if_pos (Or.inr d2)]
          exact bad
      · rw [if_neg (fun z => d1 (i1.mp z)), if_pos (Or.inl d1)]
        exact bad
