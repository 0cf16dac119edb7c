/-! ===== the reference takes a block from the tape ===== -/
theorem exS_flt {by_ : Nat → Nat} {size : Nat} {e : Nat × Int} (h : exS by_ size = .inl e) : 1 ≤ e.1 ∧ e.1 < 8 := by
  unfold exS at h
  split at h
  · cases h; exact ⟨by decide, by decide⟩
  split at h
  · cases h; exact ⟨by decide, by decide⟩
  split at h
  · cases h; exact ⟨by decide, by decide⟩
  cases hr : rdN (fb by_ (8 * (size - 15))) (8 * (size - 15)) (cs0 by_) (hct by_ - 1) with
  | inl x =>
    rw [hr] at h
    cases h
    have : ∀ (n : Nat) (y : Nat × Nat), rdN (fb by_ (8 * (size - 15))) (8 * (size - 15)) (cs0 by_) n = .inl y → 1 ≤ y.1 ∧ y.1 < 8 := by
      intro n
      induction n with
      | zero => intro y hy; cases hy
      | succ n ih =>
        intro y hy
        unfold rdN at hy
        cases hn : rdN (fb by_ (8 * (size - 15))) (8 * (size - 15)) (cs0 by_) n with
        | inl z => rw [hn] at hy; cases hy; exact ih _ hn
        | inr z =>
          obtain ⟨p, c, l⟩ := z
          rw [hn] at hy
          dsimp only at hy
          by_cases c0 : (rdP (fb by_ (8 * (size - 15))) (8 * (size - 15)) c p).1 = 0
          · rw [if_pos c0] at hy; cases hy
          · rw [if_neg c0] at hy
            cases hy
            have := rdP_flt (fb by_ (8 * (size - 15))) (8 * (size - 15)) c p
            exact ⟨by omega, by omega⟩
    exact this _ _ hr
  | inr r =>
    rw [hr] at h
    dsimp only at h
    split at h
    · cases h; exact ⟨show 1 ≤ 6 by decide, show 6 < 8 by decide⟩
    · cases h
theorem tk_27 {K : Kn} {A n : Nat} {x1 : Int32} {by_ : Nat → Nat} (hn : n ≤ 200) : ∀ (f k : Nat) (m mq : Mem), k ≤ n → n - k < f → MS K mq A → (∀ i, i < n → gI mq (A + 13) i = nI (by_ i)) → fr (fun a j => a = A + 4 ∧ 12800 ≤ j ∧ j < 13000) m mq → (∀ i, i < k → gI mq (A + 4) (200 * 64 + i) = nI (by_ i)) → ∃ m' n', f_X9_takes_27 K A x1 f mq (nI 64) (nI n) (nI k) = f_X9_takes_27 K A x1 (n' + 1) m' (nI 64) (nI n) (nI n) ∧ fr (fun a j => a = A + 4 ∧ 12800 ≤ j ∧ j < 13000) m m' ∧ MS K m' A ∧ ∀ i, i < n → gI m' (A + 4) (200 * 64 + i) = nI (by_ i)
  | 0, _, _, _, _, h, _, _, _, _ => absurd h (Nat.not_lt_zero _)
  | f + 1, k, m, mq, hk, hf, h, ht, hfr, hc => by
    by_cases c : k = n
    · subst c
      exact ⟨mq, f, rfl, hfr, h, hc⟩
    · have unf : f_X9_takes_27 K A x1 (f + 1) mq (nI 64) (nI n) (nI k) = f_X9_takes_27B K A x1 (f_X9_takes_27 K A x1 f) mq (nI 64) (nI n) (nI k) := rfl
      rw [unf]
      unfold f_X9_takes_27B
      rw [if_neg (fun z => by have := (nI_leI (by omega) (by omega)).mp z; omega), h.d3, bind_e, h.d12, bind_e, h.g12 (by omega), bind_e, ht k (by omega), show (200 : Int32) = nI 200 from rfl, nI_mul, nI_add, h.s3 (by omega), bind_e, bd_e, nI_1]
      have fM : fr (fun a j => a = A + 4 ∧ 12800 ≤ j ∧ j < 13000) mq (sI mq (A + 4) (200 * 64 + k) (nI (by_ k))) := fr_sI ⟨rfl, by omega, by omega⟩
      exact tk_27 hn f (k + 1) m _ (by omega) (by omega) (h.on fM) (fun i hi => (fM.I (fun z => by omega)).trans (ht i hi)) (hfr.trans fM) (fun i hi => by
        by_cases ci : i = k
        · rw [ci, gI_sI_s]
        · rw [gI_sI_n (Or.inr (by omega))]; exact hc i (by omega))
theorem tk_225 {K : Kn} {A n q : Nat} {x1 : Int32} {by_ : Nat → Nat} (hn : n ≤ 200) (hq : q < 80) : ∀ (f k : Nat) (m mq : Mem), k ≤ n → n - k < f → MS K mq A → (∀ i, i < n → gI mq (A + 13) i = nI (by_ i)) → fr (fun a j => a = A + 4 ∧ 200 * q ≤ j ∧ j < 200 * q + 200) m mq → (∀ i, i < k → gI mq (A + 4) (200 * q + i) = nI (by_ i)) → ∃ m' n', f_X9_takes_225 K A x1 f mq (nI 64) (nI n) (nI q) (nI k) = f_X9_takes_225 K A x1 (n' + 1) m' (nI 64) (nI n) (nI q) (nI n) ∧ fr (fun a j => a = A + 4 ∧ 200 * q ≤ j ∧ j < 200 * q + 200) m m' ∧ MS K m' A ∧ ∀ i, i < n → gI m' (A + 4) (200 * q + i) = nI (by_ i)
  | 0, _, _, _, _, h, _, _, _, _ => absurd h (Nat.not_lt_zero _)
  | f + 1, k, m, mq, hk, hf, h, ht, hfr, hc => by
    by_cases c : k = n
    · subst c
      exact ⟨mq, f, rfl, hfr, h, hc⟩
    · have unf : f_X9_takes_225 K A x1 (f + 1) mq (nI 64) (nI n) (nI q) (nI k) = f_X9_takes_225B K A x1 (f_X9_takes_225 K A x1 f) mq (nI 64) (nI n) (nI q) (nI k) := rfl
      rw [unf]
      unfold f_X9_takes_225B
      rw [if_neg (fun z => by have := (nI_leI (by omega) (by omega)).mp z; omega), h.d3, bind_e, h.d12, bind_e, h.g12 (by omega), bind_e, ht k (by omega), show (200 : Int32) = nI 200 from rfl, nI_mul, nI_add, h.s3 (by omega), bind_e, bd_e, nI_1]
      have fM : fr (fun a j => a = A + 4 ∧ 200 * q ≤ j ∧ j < 200 * q + 200) mq (sI mq (A + 4) (200 * q + k) (nI (by_ k))) := fr_sI ⟨rfl, by omega, by omega⟩
      exact tk_225 hn hq f (k + 1) m _ (by omega) (by omega) (h.on fM) (fun i hi => (fM.I (fun z => by omega)).trans (ht i hi)) (hfr.trans fM) (fun i hi => by
        by_cases ci : i = k
        · rw [ci, gI_sI_s]
        · rw [gI_sI_n (Or.inr (by omega))]; exact hc i (by omega))
theorem seals_core {K : Kn} {m : Mem} {A j : Nat} {s : St} {S : Sr} {bl0 : List Bk} {b : Bk} (hok : stOk s) (h : RM K m A s) (hj : j < 4) (hs : sl s (nI j) = some S) (hS : srOk S) (hm : smR m A j S) (hb : S.2.2.2 = bl0 ++ [b]) (hse : b.2.2.1 = false) : ∃ m' v, F_X9_seals K m A (nI j) = some (v, m') ∧ UP A j m m' ∧ smR m' A j (S.1, S.2.1, S.2.2.1, bl0 ++ [clB b]) ∧ fr (fun a k => WQ A (16 * j + bl0.length) a k ∨ WW A (16 * j + bl0.length) a k) m m' := by
  unfold F_X9_seals f_X9_seals
  rcases isSeries_ok hok h (nI j) with ⟨hs', hn⟩ | ⟨S', hs', hn⟩
  · rw [hs'] at hs; cases hs
  · rw [hn, bind_e, if_neg (by decide)]
    have h16 := hS.2.2.2.2.2.2.2.1
    simp only [h.1.d2, h.1.d6, bind_e, h.1.g2 (show j < 5 by omega), hm.2.2.1, bd_e]
    have hlen : S.2.2.2.length = bl0.length + 1 := by rw [hb]; simp
    have hget : S.2.2.2[bl0.length]? = some b := by rw [hb]; exact get_last bl0 b
    have hbm := hS.2.2.2.2.2.2.2.2.1 b (by rw [hb]; simp)
    have hmb := hm.2.2.2.1 _ b hget
    have idx : (16 : Int32) * nI j + nI S.2.2.2.length - (1 : Int32) = nI (16 * j + bl0.length) := by
      rw [hlen, show (16 : Int32) = nI 16 from rfl, show (1 : Int32) = nI 1 from rfl, nI_mul, nI_add, pk_sub (by omega), show 16 * j + (bl0.length + 1) - 1 = 16 * j + bl0.length by omega]
    rw [idx, if_neg (fun z => by have := (nI_zero (by omega)).mp z; omega), h.1.g6 (by omega), bind_e, hmb.2.2.1, hse, if_neg (by decide : ¬ (false = true)), if_pos rfl]
    obtain ⟨p, c, l, hr, -⟩ := ok_open hbm.1 hse
    obtain ⟨m1, r1, r2, r3, r4⟩ := isBroken_ok h.1 (q := 16 * j + bl0.length) (by omega) hbm.1 hmb
    have e0 : F_X9_reads K m A (nI (16 * j + bl0.length)) = some m1 := by
      unfold F_X9_isBroken f_X9_isBroken at r1
      cases hx : F_X9_reads K m A (nI (16 * j + bl0.length)) with
      | none => rw [hx] at r1; cases r1
      | some m2 =>
        rw [hx, bind_e] at r1
        split at r1 <;> rw [(Prod.mk.inj (Option.some.inj r1)).2]
    rw [e0, bind_e]
    rw [hr] at r4
    have hm1 := hm.keep hS hj r2
    have hmb1 := hm1.2.2.2.1 _ b hget
    have s1 := h.1.on r3
    obtain ⟨m2, q1, q2, q3, q4, q5⟩ := seals0_ok (K := K) s1 (by omega) hbm.1 hse hr hmb1 r4.2.2.2.1
    have s2 := s1.on q3
    rw [q1, bind_e, s2.d4, bind_e, s2.g4 (by omega), bind_e]
    have hok0 : ∀ x ∈ bl0, bkOk x := fun x hx => (hS.2.2.2.2.2.2.2.2.1 x (by rw [hb]; simp [hx])).1
    have uM : UP A j m1 m2 := WJ_UP (q3.mono (fun a k z => WW_WJ (by omega) z)) (fun z => zM_WW z q3 q2)
    obtain ⟨a1, a2, a3, a4, L, l1, l2, l3⟩ := hm1
    refine ⟨m2, _, rfl, r2.up.trans uM, ⟨(q3.I (fun z => by unfold WW at z; omega)).trans a1, (q3.I (fun z => by unfold WW at z; omega)).trans a2, ?_, ?_, L, l1, (q3.I (fun z => by unfold WW at z; omega)).trans l2, fun i y hy => ⟨(q3.I (fun z => by unfold WW at z; omega)).trans (l3 i y hy).1, (q3.J (fun z => by unfold WW at z; omega)).trans (l3 i y hy).2⟩⟩, (r3.mono (fun a k z => Or.inl z)).trans (q3.mono (fun a k z => Or.inr z))⟩
    · rw [q3.I (fun z => by unfold WW at z; omega), a3]
      congr 1
      show S.2.2.2.length = (bl0 ++ [clB b]).length
      rw [hlen, List.length_append]; rfl
    · exact smB_last hok0 (by rw [hb] at a4; exact a4) q3 q2
/-- the block comes behind those that are there -/
theorem tk_209 {K : Kn} {m : Mem} {A j n fst lst : Nat} {S : Sr} {by_ : Nat → Nat} (h : MS K m A) (hj : j < 4) (hn : n ≤ 200) (hl : S.2.2.2.length < 16) (hok : ∀ x ∈ S.2.2.2, bkOk x) (hm : smR m A j S) (ht : ∀ i, i < n → gI m (A + 13) i = nI (by_ i)) (h8 : gI m (A + 8) 64 = nI fst) (h9 : gI m (A + 9) 64 = nI lst) : ∃ m', f_X9_takes_209 K A (nI j) m (nI 64) (nI n) = some (nI S.2.2.2.length, m') ∧ UP A j m m' ∧ smR m' A j (S.1, S.2.1, S.2.2.1, S.2.2.2 ++ [(by_, n, true, fst, lst)]) := by
  unfold f_X9_takes_209
  rw [h.d2, bind_e, h.g2 (by omega), bind_e, hm.2.2.1, show (16 : Int32) = nI 16 from rfl, nI_mul, nI_add, bd_e]
  obtain ⟨q, hq⟩ : ∃ q, q = 16 * j + S.2.2.2.length := ⟨_, rfl⟩
  rw [← hq]
  have hq80 : q < 64 := by omega
  obtain ⟨m1, n1, e1, e2, e3, e4⟩ := tk_225 (K := K) (x1 := nI j) (q := q) hn (by omega) FU 0 m m (by omega) (by rw [FU_e]; omega) h ht (fr.refl m) (fun i hi => absurd hi (Nat.not_lt_zero _))
  have e1 : f_X9_takes_225 K A (nI j) FU m (nI 64) (nI n) (nI q) (0 : Int32) = _ := e1
  rw [e1]
  show ∃ m', f_X9_takes_225B K A (nI j) (f_X9_takes_225 K A (nI j) n1) m1 (nI 64) (nI n) (nI q) (nI n) = _ ∧ _
  unfold f_X9_takes_225B
  have s1 : MS K (sI m1 (A + 5) q (nI n)) A := e3.on (fr_sI (W := fun _ _ => True) trivial)
  have s2 : MS K (sI (sI m1 (A + 5) q (nI n)) (A + 7) q 1) A := s1.on (fr_sI (W := fun _ _ => True) trivial)
  have s3 : MS K (sI (sI (sI m1 (A + 5) q (nI n)) (A + 7) q 1) (A + 8) q (nI fst)) A := s2.on (fr_sI (W := fun _ _ => True) trivial)
  have s4 : MS K (sI (sI (sI (sI m1 (A + 5) q (nI n)) (A + 7) q 1) (A + 8) q (nI fst)) (A + 9) q (nI lst)) A := s3.on (fr_sI (W := fun _ _ => True) trivial)
  have s5 : ∀ v, MS K (sI (sI (sI (sI (sI m1 (A + 5) q (nI n)) (A + 7) q 1) (A + 8) q (nI fst)) (A + 9) q (nI lst)) (A + 3) j v) A := fun v => s4.on (fr_sI (W := fun _ _ => True) trivial)
  have g8 : gI m1 (A + 8) 64 = nI fst := (e2.I (fun z => by omega)).trans h8
  have g9 : gI m1 (A + 9) 64 = nI lst := (e2.I (fun z => by omega)).trans h9
  have g3 : gI m1 (A + 3) j = nI S.2.2.2.length := (e2.I (fun z => by omega)).trans hm.2.2.1
  rw [if_pos ((nI_leI (by omega) (by omega)).mpr (Nat.le_refl _)), e3.d4, bind_e, e3.s4 (by omega), bind_e, s1.d6, bind_e, s1.s6 (by omega) (Or.inr rfl), bind_e, s2.d7, bind_e, bind_e, s2.g7 (by omega), bind_e, gI_sI_n (Or.inl (by omega)), gI_sI_n (Or.inl (by omega)), g8, s2.s7 (by omega), bind_e, s3.d8, bind_e, bind_e, s3.g8 (by omega), bind_e, gI_sI_n (Or.inl (by omega)), gI_sI_n (Or.inl (by omega)), gI_sI_n (Or.inl (by omega)), g9, s3.s8 (by omega), bind_e, s4.d2, bind_e, s4.g2 (by omega), bind_e, gI_sI_n (Or.inl (by omega)), gI_sI_n (Or.inl (by omega)), gI_sI_n (Or.inl (by omega)), gI_sI_n (Or.inl (by omega)), g3, nI_1, s4.s2 (by omega), bind_e, (s5 _).d2, bind_e, (s5 _).g2 (by omega), bind_e, gI_sI_s, show (1 : Int32) = nI 1 from rfl, pk_sub (by omega), Nat.add_sub_cancel]
  have fq : fr (WW A q) m (sI (sI (sI (sI m1 (A + 5) q (nI n)) (A + 7) q (nI 1)) (A + 8) q (nI fst)) (A + 9) q (nI lst)) := (e2.mono (fun a k z => Or.inr (Or.inl z))).trans ((((fr_sI (Or.inr (Or.inr ⟨by omega, rfl⟩))).trans (fr_sI (Or.inr (Or.inr ⟨by omega, rfl⟩)))).trans (fr_sI (Or.inr (Or.inr ⟨by omega, rfl⟩)))).trans (fr_sI (Or.inr (Or.inr ⟨by omega, rfl⟩))))
  have hnew : mbR (sI (sI (sI (sI m1 (A + 5) q (nI n)) (A + 7) q (nI 1)) (A + 8) q (nI fst)) (A + 9) q (nI lst)) A q (by_, n, true, fst, lst) := by
    refine ⟨fun i hi => ?_, ?_, ?_, fun _ => ⟨?_, gI_sI_s⟩, (fun z => by cases z)⟩
    · rw [gI_sI_n (Or.inl (by omega)), gI_sI_n (Or.inl (by omega)), gI_sI_n (Or.inl (by omega)), gI_sI_n (Or.inl (by omega))]; exact e4 i hi
    · rw [gI_sI_n (Or.inl (by omega)), gI_sI_n (Or.inl (by omega)), gI_sI_n (Or.inl (by omega)), gI_sI_s]
    · rw [gI_sI_n (Or.inl (by omega)), gI_sI_n (Or.inl (by omega)), gI_sI_s]; rfl
    · rw [gI_sI_n (Or.inl (by omega)), gI_sI_s]
  generalize sI (sI (sI (sI m1 (A + 5) q (nI n)) (A + 7) q (nI 1)) (A + 8) q (nI fst)) (A + 9) q (nI lst) = M at fq hnew ⊢
  have f3 : fr (fun a k => a = A + 3 ∧ k = j) M (sI M (A + 3) j (nI (S.2.2.2.length + 1))) := fr_sI ⟨rfl, rfl⟩
  have fAll : fr (WJ A j) m (sI M (A + 3) j (nI (S.2.2.2.length + 1))) := (fq.mono (fun a k z => by rw [hq] at z; exact WW_WJ hl z)).trans (f3.mono (fun a k z => Or.inr (Or.inl z)))
  obtain ⟨a1, a2, a3, a4, L, l1, l2, l3⟩ := hm
  refine ⟨_, rfl, WJ_UP fAll (fun z => (zM_WW z fq hnew).on f3 (fun k z => by omega)), ⟨(fAll.I (fun z => by unfold WJ at z; omega)).trans a1, (fAll.I (fun z => by unfold WJ at z; omega)).trans a2, ?_, fun k b hb => ?_, L, l1, (fAll.I (fun z => by unfold WJ at z; omega)).trans l2, fun i y hy => ⟨(fAll.I (fun z => by unfold WJ at z; omega)).trans (l3 i y hy).1, (fAll.J (fun z => by unfold WJ at z; omega)).trans (l3 i y hy).2⟩⟩⟩
  · rw [gI_sI_s]
    show nI (S.2.2.2.length + 1) = nI (S.2.2.2 ++ [_]).length
    rw [List.length_append]; rfl
  · have := smB_more (j := j) (b' := (by_, n, true, fst, lst)) hok a4 (by rw [← hq]; exact fq) (by rw [← hq]; exact hnew) k b hb
    exact this.on f3 (fun i _ z => by omega) (fun a _ _ z => by omega)
theorem mtakes_ok {K : Kn} {m : Mem} {A : Nat} {s : St} (hok : stOk s) (h : RM K m A s) (x : Int32) : okM K m A (F_X9_takes K m A x) (nTakes s x).1 (nTakes s x).2 := by
  unfold F_X9_takes f_X9_takes nTakes
  rcases isSeries_ok hok h x with ⟨hs, hn⟩ | ⟨S, hs, hn⟩
  · rw [hn, hs, bind_e, if_pos rfl]; exact okM.same h
  · rw [hn, hs, bind_e, if_neg (by decide), bd_e, bd_e, h.2.2.1]
    obtain ⟨j, hj, rfl, hsj, hS, hm⟩ := h.at hok hs
    have h200 := hok.2.1
    have h16 := hS.2.2.2.2.2.2.2.1
    have hr := hS.room
    have hok0 : stOk (s.1, s.2.1, 0) := ⟨hok.1, Nat.zero_le _, fun i hi => absurd hi (Nat.not_lt_zero _)⟩
    have f4 : fr (fun a i => a = A ∧ i = 13) m (sI m A 13 0) := fr_sI ⟨rfl, rfl⟩
    have h4 : RM K (sI m A 13 0) A (s.1, s.2.1, 0) := h.tape (s' := (s.1, s.2.1, 0)) hok f4 (fun a k z => Or.inl z) rfl gI_sI_s (fun i hi => absurd hi (Nat.not_lt_zero _))
    have hs4 : sl (s.1, s.2.1, 0) (nI j) = some S := hs
    have q4 : eqOn (off A 24) m (sI m A 13 0) := fun a ha k => by
      have : a ≠ A := by unfold off at ha; omega
      exact ⟨f4.I (fun z => this z.1), f4.J (fun z => this z.1), f4.R a k⟩
    have t4 : ∀ i, i < s.2.2 → gI (sI m A 13 0) (A + 13) i = nI (s.2.1 i) := fun i hi => (f4.I (fun z => by omega)).trans (h.2.2.2.1 i hi)
    have back : ∀ {F : Option (Int32 × Mem)} {ans : Int32} {s' : St}, okM K (sI m A 13 0) A F ans s' → okM K m A F ans s' := fun ⟨m', e1, e2, e3, e4⟩ => ⟨m', e1, e2, q4.trans e3, e4⟩
    generalize sI m A 13 0 = m4 at h4 q4 t4 back ⊢
    obtain ⟨m5, n5, e1, e2, e3, e4⟩ := tk_27 (K := K) (x1 := nI j) h200 FU 0 m4 m4 (Nat.zero_le _) (by rw [FU_e]; omega) h4.1 t4 (fr.refl m4) (fun i hi => absurd hi (Nat.not_lt_zero _))
    have e1 : f_X9_takes_27 K A (nI j) FU m4 (64 : Int32) (nI s.2.2) (0 : Int32) = _ := e1
    rw [e1]
    refine back ?_
    show okM K m4 A (f_X9_takes_27B K A (nI j) (f_X9_takes_27 K A (nI j) n5) m5 (nI 64) (nI s.2.2) (nI s.2.2)) _ _
    unfold f_X9_takes_27B
    have s5 : MS K (sI m5 (A + 5) 64 (nI s.2.2)) A := e3.on (fr_sI (W := fun _ _ => True) trivial)
    rw [if_pos ((nI_leI (by omega) (by omega)).mpr (Nat.le_refl _)), e3.d4, bind_e, e3.s4 (by omega), bind_e, s5.d6, bind_e, s5.s6 (by omega) (Or.inr rfl), bind_e]
    have f6 : fr (fun a i => (a = A + 5 ∨ a = A + 7) ∧ i = 64) m5 (sI (sI m5 (A + 5) 64 (nI s.2.2)) (A + 7) 64 1) := (fr_sI ⟨Or.inl rfl, rfl⟩).trans (fr_sI ⟨Or.inr rfl, rfl⟩)
    have g5 : gI (sI (sI m5 (A + 5) 64 (nI s.2.2)) (A + 7) 64 1) (A + 5) 64 = nI s.2.2 := by rw [gI_sI_n (Or.inl (by omega)), gI_sI_s]
    have g7 : gI (sI (sI m5 (A + 5) 64 (nI s.2.2)) (A + 7) 64 1) (A + 7) 64 = 1 := gI_sI_s
    generalize sI (sI m5 (A + 5) 64 (nI s.2.2)) (A + 7) 64 1 = m6 at f6 g5 g7 ⊢
    have s6 := e3.on f6
    obtain ⟨m7, r1, r2, r3⟩ := readsAll_s (K := K) (q := 64) (by_ := s.2.1) s6 (by omega) h200 (fun i hi => ⟨(f6.I (fun z => by omega)).trans (e4 i hi), hok.2.2 i hi⟩) g5 g7
    rw [r1, bind_e]
    have k7 : KP A m4 m7 := by
      refine ⟨((e2.mono (fun a k z => ?_)).trans (f6.mono (fun a k z => ?_))).trans (r2.mono (fun a k z => ?_)), fun q hq _ => ?_, fun z q hq => ?_⟩
      · exact Or.inr (Or.inr (Or.inr (Or.inr (Or.inl ⟨z.1, z.2.1⟩))))
      · exact Or.inr (Or.inr (Or.inr (Or.inr (Or.inr (Or.inl ⟨by omega, by omega⟩)))))
      · unfold WQ at z; unfold WS; omega
      · rw [r2.I (fun z => by unfold WQ at z; omega), f6.I (fun z => by omega), e2.I (fun z => by omega)]
      · rw [r2.I (fun z => by unfold WQ at z; omega)]
        by_cases c : q = 64
        · rw [c, g7]; exact Or.inr rfl
        · rw [f6.I (fun z => by omega), e2.I (fun z => by omega)]; exact z q hq
    have h7 := h4.keep hok0 k7
    have t7 : ∀ i, i < s.2.2 → gI m7 (A + 13) i = nI (s.2.1 i) := fun i hi => by
      rw [r2.I (fun z => by unfold WQ at z; omega), f6.I (fun z => by omega), e2.I (fun z => by omega)]; exact t4 i hi
    obtain ⟨j', hj', hje, -, -, hm7⟩ := h7.at hok0 hs4
    have : j' = j := ((nI_eq (by omega) (by omega)).mp hje).symm
    subst this
    dsimp only
    cases hx : exS s.2.1 s.2.2 with
    | inl e =>
      rw [hx] at r3
      have hflt := exS_flt hx
      rw [r3.1, if_neg (fun z => by have := (nI_leI (b := 0) (by omega) (by omega)).mp z; omega)]
      exact okM.kp hok0 h4 k7
    | inr r =>
      rw [hx] at r3
      obtain ⟨a1, a2, a3, a4, a5, a6, a7⟩ := r3
      obtain ⟨t0, x0, l', t1, t2, t3⟩ := exS_hst hx
      have hfac : 15 ≤ s.2.2 ∧ hst s.2.1 ≤ 2000000000 ∧ hst s.2.1 ≤ r.2.1.1 ∧ r.2.1.1 ≤ 2000000000 ∧ 1 ≤ hct s.2.1 := exS_facts (p := r.1) (c := r.2.1) (l := r.2.2) hx
      have e14 : gJ m7 (A + 14) 0 = lN (hst s.2.1) := by
        have := (a7 0 x0 (by rw [t1]; rfl)).1
        rw [t2] at this
        exact this
      rw [if_pos (by rw [a1]; decide), h7.1.d0, bind_e, h7.1.g0 (by omega), bind_e, hm7.1]
      dsimp only
      by_cases cr : s.2.2 ≤ S.1
      · rw [if_pos ((nI_leI (by omega) (by omega)).mpr cr), if_pos cr, h7.1.d21, bind_e, show alJ K m7 (A + 14) (0 : Int32) = some (gJ m7 (A + 14) 0) from h7.1.g21 (i := 0) (by omega), bind_e, e14, l2i_lN, isAbove_ok h7.1 hj' hS hm7 (by rw [nI_toInt (by omega)]; omega), bind_e, nI_toInt (by omega)]
        by_cases ca : S.2.1 < (hst s.2.1 : Int)
        · rw [if_pos ca, if_pos ca, if_neg (by decide), h7.1.d2, bind_e, h7.1.g2 (by omega), bind_e, hm7.2.2.1]
          have i16 : nI S.2.2.2.length = (16 : Int32) ↔ S.2.2.2.length = 16 := nI_eq (b := 16) (by omega) (by omega)
          unfold takeS
          by_cases c16 : 16 ≤ S.2.2.2.length
          · rw [if_pos (i16.mpr (by omega)), if_pos c16]
            exact okM.kp hok0 h4 k7
          · rw [if_neg (fun z => c16 (by have := i16.mp z; omega)), if_neg c16, h7.1.d7, bind_e, bind_e, show alJ K m7 (A + 14) (0 : Int32) = some (gJ m7 (A + 14) 0) from h7.1.g21 (i := 0) (by omega), bind_e, e14, l2i_lN, show (64 : Nat) = 64 from rfl, h7.1.s7 (show 64 < 80 by omega), bind_e]
            have s21 : MS K (sI m7 (A + 8) 64 (nI (hst s.2.1))) A := h7.1.on (fr_sI (W := fun _ _ => True) trivial)
            have s23 : MS K (sI (sI m7 (A + 8) 64 (nI (hst s.2.1))) (A + 9) 64 (nI r.2.1.1)) A := s21.on (fr_sI (W := fun _ _ => True) trivial)
            rw [s21.d8, bind_e, gJ_sI, a4.1, l2i_lN, s21.s8 (show 64 < 80 by omega), bind_e, s23.d1, bind_e, gJ_sI, gJ_sI, a4.1, l2i_lN, s23.s1 (by omega), bind_e]
            have f25 : fr (fun a i => ((a = A + 8 ∨ a = A + 9) ∧ i = 64) ∨ (a = A + 2 ∧ i = j')) m7 (sI (sI (sI m7 (A + 8) 64 (nI (hst s.2.1))) (A + 9) 64 (nI r.2.1.1)) (A + 2) j' (nI r.2.1.1)) := ((fr_sI (Or.inl ⟨Or.inl rfl, rfl⟩)).trans (fr_sI (Or.inl ⟨Or.inr rfl, rfl⟩))).trans (fr_sI (Or.inr ⟨rfl, rfl⟩))
            have g8 : gI (sI (sI (sI m7 (A + 8) 64 (nI (hst s.2.1))) (A + 9) 64 (nI r.2.1.1)) (A + 2) j' (nI r.2.1.1)) (A + 8) 64 = nI (hst s.2.1) := by rw [gI_sI_n (Or.inl (by omega)), gI_sI_n (Or.inl (by omega)), gI_sI_s]
            have g9 : gI (sI (sI (sI m7 (A + 8) 64 (nI (hst s.2.1))) (A + 9) 64 (nI r.2.1.1)) (A + 2) j' (nI r.2.1.1)) (A + 9) 64 = nI r.2.1.1 := by rw [gI_sI_n (Or.inl (by omega)), gI_sI_s]
            have g2 : gI (sI (sI (sI m7 (A + 8) 64 (nI (hst s.2.1))) (A + 9) 64 (nI r.2.1.1)) (A + 2) j' (nI r.2.1.1)) (A + 2) j' = nI r.2.1.1 := gI_sI_s
            generalize sI (sI (sI m7 (A + 8) 64 (nI (hst s.2.1))) (A + 9) 64 (nI r.2.1.1)) (A + 2) j' (nI r.2.1.1) = m25 at f25 g8 g9 g2 ⊢
            have u25 : UP A j' m7 m25 := UP.of f25 (fun a k z => by
              refine ⟨?_, by omega⟩
              rcases z with z | z
              · exact Or.inl (Or.inr (Or.inr (Or.inr (Or.inr (Or.inr (Or.inl ⟨by omega, by omega⟩))))))
              · exact Or.inr (Or.inl ⟨by omega, z.2⟩)) (fun z => z.on f25 (fun k z => by omega))
            have t25 : ∀ i, i < s.2.2 → gI m25 (A + 13) i = nI (s.2.1 i) := fun i hi => (f25.I (fun z => by omega)).trans (t7 i hi)
            have hS25 : srOk (S.1, (r.2.1.1 : Int), S.2.2.1, S.2.2.2) := by
              obtain ⟨o1, o2, o3, o4, o5, o6, o7, o8, o9, o10⟩ := hS
              exact ⟨o1, o2, by show (-1 : Int) ≤ (r.2.1.1 : Int); omega, by show (r.2.1.1 : Int) ≤ _; omega, o5, o6, fun q hq => by have := o7 q hq; show (q.1 : Int) ≤ r.2.1.1; omega, o8, fun b hb => ⟨(o9 b hb).1, by have := (o9 b hb).2; show (b.2.2.2.2 : Int) ≤ r.2.1.1; omega⟩, o10⟩
            have hm25 : smR m25 A j' (S.1, (r.2.1.1 : Int), S.2.2.1, S.2.2.2) := by
              obtain ⟨b1, b2, b3, b4, L, l1, l2, l3⟩ := hm7
              refine ⟨(f25.I (fun z => by omega)).trans b1, ?_, (f25.I (fun z => by omega)).trans b3, fun k b hb => ?_, L, l1, (f25.I (fun z => by omega)).trans l2, fun i y hy => ⟨(f25.I (fun z => by omega)).trans (l3 i y hy).1, (f25.J (fun z => by omega)).trans (l3 i y hy).2⟩⟩
              · rw [g2]; exact (iZ_nat _).symm
              · have hk := (List.getElem?_eq_some_iff.mp hb).1
                have hk : k < S.2.2.2.length := hk
                exact (b4 k b hb).on f25 (fun i _ z => by omega) (fun a _ _ z => by omega)
            have h25 : RM K m25 A (upS (s.1, s.2.1, 0) j' (S.1, (r.2.1.1 : Int), S.2.2.1, S.2.2.2)) := h7.up hok0 hj' u25 hm25
            have ok25 : stOk (upS (s.1, s.2.1, 0) j' (S.1, (r.2.1.1 : Int), S.2.2.1, S.2.2.2)) := upS_ok hok0 hS25
            have sl25 : sl (upS (s.1, s.2.1, 0) j' (S.1, (r.2.1.1 : Int), S.2.2.1, S.2.2.2)) (nI j') = some (S.1, (r.2.1.1 : Int), S.2.2.1, S.2.2.2) := by
              unfold sl upS
              rw [if_pos (by rw [nI_toInt (by omega)]; omega), nI_clamp (by omega)]
              exact if_pos rfl
            have fin : ∀ (mm : Mem), MS K mm A → UP A j' m25 mm → smR mm A j' (S.1, (r.2.1.1 : Int), S.2.2.1, clL S.2.2.2) → (∀ i, i < s.2.2 → gI mm (A + 13) i = nI (s.2.1 i)) → gI mm (A + 8) 64 = nI (hst s.2.1) → gI mm (A + 9) 64 = nI r.2.1.1 → okM K m4 A (f_X9_takes_209 K A (nI j') mm (nI 64) (nI s.2.2)) (nI ((clL S.2.2.2 ++ [tpB s r.2.1.1]).length - 1)) (upS (s.1, s.2.1, 0) (nI j').toNatClampNeg (S.1, ((tpB s r.2.1.1).2.2.2.2 : Int), S.2.2.1, clL S.2.2.2 ++ [tpB s r.2.1.1])) := fun mm z1 z2 z3 z4 z5 z6 => by
              have hcl := clL_len S.2.2.2
              obtain ⟨w1, w2⟩ := clL_ok hS.2.2.2.2.2.2.2.2.1 hS.2.2.2.2.2.2.2.2.2
              obtain ⟨m9, p1, p2, p3⟩ := tk_209 (K := K) (S := (S.1, (r.2.1.1 : Int), S.2.2.1, clL S.2.2.2)) z1 hj' h200 (by show (clL S.2.2.2).length < 16; omega) (fun x hx => (w1 x hx).1) z3 z4 z5 z6
              rw [p1, nI_clamp (by omega)]
              have e9 : (clL S.2.2.2 ++ [tpB s r.2.1.1]).length - 1 = (clL S.2.2.2).length := by rw [List.length_append]; rfl
              rw [e9]
              exact okM.up hok0 h4 hj' ((k7.up.trans u25).trans (z2.trans p2)) p3
            have s25 := h25.1
            rw [s25.d2, bind_e, s25.g2 (by omega), bind_e, hm25.2.2.1]
            dsimp only
            rcases last_cases S.2.2.2 with hb | ⟨bl0, b, hb⟩
            · rw [hb, if_pos (by decide)]
              rw [hb] at fin hm25
              exact fin m25 s25 (KP.refl A m25).up hm25 t25 g8 g9
            · have hlen : S.2.2.2.length = bl0.length + 1 := by rw [hb]; simp
              have hget : S.2.2.2[bl0.length]? = some b := by rw [hb]; exact get_last bl0 b
              have hmb := hm25.2.2.2.1 _ b hget
              have idx : (16 : Int32) * nI j' + nI S.2.2.2.length - (1 : Int32) = nI (16 * j' + bl0.length) := by
                rw [hlen, show (16 : Int32) = nI 16 from rfl, show (1 : Int32) = nI 1 from rfl, nI_mul, nI_add, pk_sub (by omega), show 16 * j' + (bl0.length + 1) - 1 = 16 * j' + bl0.length by omega]
              simp only [s25.d2, s25.d6, bind_e, s25.g2 (show j' < 5 by omega), hm25.2.2.1]
              rw [idx, if_neg (fun z => by have := (nI_leI (b := 0) (by omega) (by omega)).mp z; omega), s25.g6 (by omega), bind_e, hmb.2.2.1]
              cases hse : b.2.2.1 with
              | true =>
                rw [if_pos rfl, if_neg (by decide)]
                have ec : clL S.2.2.2 = S.2.2.2 := by rw [hb, clL_t hse]
                rw [ec] at fin ⊢
                exact fin m25 s25 (KP.refl A m25).up hm25 t25 g8 g9
              | false =>
                rw [if_neg (by decide : ¬ (false = true)), if_pos rfl]
                obtain ⟨m26, v, y1, y2, y3, y4⟩ := seals_core ok25 h25 hj' sl25 hS25 hm25 hb hse
                rw [y1, bind_e]
                have ec : clL S.2.2.2 = bl0 ++ [clB b] := by rw [hb, clL_f hse]
                rw [← ec] at y3
                exact fin m26 (s25.on y4) y2 y3 (fun i hi => (y4.I (fun z => by unfold WQ WW at z; omega)).trans (t25 i hi)) ((y4.I (fun z => by unfold WQ WW at z; omega)).trans g8) ((y4.I (fun z => by unfold WQ WW at z; omega)).trans g9)
        · rw [if_neg ca, if_neg ca, if_pos rfl]
          exact okM.kp hok0 h4 k7
      · rw [if_neg (fun z => cr ((nI_leI (by omega) (by omega)).mp z)), if_neg cr]
        exact okM.kp hok0 h4 k7
