/-! ===== the reference: drops, end, feed ===== -/
/-- a block as it lies at another place -/
def mvd (m m' : Mem) (A q q' : Nat) : Prop := (∀ i, i < 200 → gI m' (A + 4) (200 * q' + i) = gI m (A + 4) (200 * q + i)) ∧ gI m' (A + 5) q' = gI m (A + 5) q ∧ gI m' (A + 6) q' = gI m (A + 6) q ∧ gI m' (A + 7) q' = gI m (A + 7) q ∧ gI m' (A + 8) q' = gI m (A + 8) q ∧ gI m' (A + 9) q' = gI m (A + 9) q
theorem dr_47 {K : Kn} {m : Mem} {A q : Nat} {x1 x2 : Int32} {k29 : Mem → Int32 → Option (Int32 × Mem)} (hq : q + 1 < 80) (hz : zM m A) : ∀ (f k : Nat) (mq : Mem), k ≤ 200 → 200 - k < f → MS K mq A → fr (fun a j => a = A + 4 ∧ 200 * q ≤ j ∧ j < 200 * q + 200) m mq → (∀ i, i < k → gI mq (A + 4) (200 * q + i) = gI m (A + 4) (200 * (q + 1) + i)) → ∃ m', f_X9_drops_47 K A x1 x2 k29 f mq (nI q) (nI k) = k29 m' (nI (q + 1)) ∧ mvd m m' A (q + 1) q ∧ fr (WW A q) m m'
  | 0, _, _, _, h, _, _, _ => absurd h (Nat.not_lt_zero _)
  | f + 1, k, mq, hk, hf, h, hfr, hc => by
    have unf : f_X9_drops_47 K A x1 x2 k29 (f + 1) mq (nI q) (nI k) = f_X9_drops_47B K A x1 x2 k29 (f_X9_drops_47 K A x1 x2 k29 f) mq (nI q) (nI k) := rfl
    rw [unf]
    unfold f_X9_drops_47B
    have i1 : (200 : Int32) ≤ nI k ↔ 200 ≤ k := nI_leI (a := 200) (by omega) (by omega)
    by_cases c : 200 ≤ k
    · have h80 : q < 80 := by omega
      have s1 : ∀ v, MS K (sI mq (A + 5) q v) A := fun v => h.on (fr_sI (W := fun _ _ => True) trivial)
      have s2 : ∀ v w, MS K (sI (sI mq (A + 5) q v) (A + 6) q w) A := fun v w => (s1 v).on (fr_sI (W := fun _ _ => True) trivial)
      have s3 : ∀ v w x, MS K (sI (sI (sI mq (A + 5) q v) (A + 6) q w) (A + 7) q x) A := fun v w x => (s2 v w).on (fr_sI (W := fun _ _ => True) trivial)
      have s4 : ∀ v w x y, MS K (sI (sI (sI (sI mq (A + 5) q v) (A + 6) q w) (A + 7) q x) (A + 8) q y) A := fun v w x y => (s3 v w x).on (fr_sI (W := fun _ _ => True) trivial)
      have h7 : gI mq (A + 7) (q + 1) = 0 ∨ gI mq (A + 7) (q + 1) = 1 := by rw [hfr.I (fun z => by omega)]; exact hz _ hq
      rw [if_pos (i1.mpr c), nI_1, h.d4, bind_e, bind_e, h.g4 hq, bind_e, h.s4 h80, bind_e, (s1 _).d5, bind_e, bind_e, (s1 _).g5 hq, bind_e, gI_sI_n (Or.inl (by omega)), (s1 _).s5 h80, bind_e, (s2 _ _).d6, bind_e, bind_e, (s2 _ _).g6 hq, bind_e, gI_sI_n (Or.inl (by omega)), gI_sI_n (Or.inl (by omega)), (s2 _ _).s6 h80 h7, bind_e, (s3 _ _ _).d7, bind_e, bind_e, (s3 _ _ _).g7 hq, bind_e, gI_sI_n (Or.inl (by omega)), gI_sI_n (Or.inl (by omega)), gI_sI_n (Or.inl (by omega)), (s3 _ _ _).s7 h80, bind_e, (s4 _ _ _ _).d8, bind_e, bind_e, (s4 _ _ _ _).g8 hq, bind_e, gI_sI_n (Or.inl (by omega)), gI_sI_n (Or.inl (by omega)), gI_sI_n (Or.inl (by omega)), gI_sI_n (Or.inl (by omega)), (s4 _ _ _ _).s8 h80, bind_e, bd_e]
      have fM := mv5_fr mq A (q + 1) q
      obtain ⟨g1, g2, g3, g4, g5⟩ := mv5_g mq A (q + 1) q
      refine ⟨mv5 mq A (q + 1) q, rfl, ⟨fun i hi => ?_, g1.trans (hfr.I (fun z => by omega)), g2.trans (hfr.I (fun z => by omega)), g3.trans (hfr.I (fun z => by omega)), g4.trans (hfr.I (fun z => by omega)), g5.trans (hfr.I (fun z => by omega))⟩, ?_⟩
      · rw [fM.I (fun z => by omega)]; exact hc i (by omega)
      · exact (hfr.mono (fun a k z => Or.inr (Or.inl z))).trans (fM.mono (fun a k z => Or.inr (Or.inr ⟨by omega, z.2.2⟩)))
    · rw [if_neg (fun z => c (i1.mp z)), nI_1, show (200 : Int32) = nI 200 from rfl, nI_mul, nI_mul, nI_add, nI_add, h.d3, bind_e, bind_e, h.g3 (by omega), bind_e, h.s3 (by omega), bind_e, bd_e, nI_1]
      have fM : fr (fun a j => a = A + 4 ∧ 200 * q ≤ j ∧ j < 200 * q + 200) mq (sI mq (A + 4) (200 * q + k) (gI mq (A + 4) (200 * (q + 1) + k))) := fr_sI ⟨rfl, by omega, by omega⟩
      exact dr_47 hq hz f (k + 1) _ (by omega) (by omega) (h.on fM) (hfr.trans fM) (fun i hi => by
        by_cases ci : i = k
        · rw [ci, gI_sI_s, hfr.I (fun z => by omega)]
        · rw [gI_sI_n (Or.inr (by omega))]; exact hc i (by omega))
theorem dr_29 {K : Kn} {m : Mem} {A j w : Nat} {x2 : Int32} {bl : List Bk} (hj : j < 4) (hl : bl.length ≤ 16) (hw : w < bl.length) (hok : ∀ b ∈ bl, bkOk b) (hb : ∀ (k : Nat) (b : Bk), bl[k]? = some b → mbR m A (16 * j + k) b) : ∀ (f i : Nat) (mq : Mem), w ≤ i → i ≤ bl.length - 1 → bl.length - 1 - i < f → MS K mq A → zM mq A → gI mq (A + 3) j = nI (bl.length - 1) → fr (WJ A j) m mq → (∀ (k : Nat) (b : Bk), k < i → (bl.eraseIdx w)[k]? = some b → mbR mq A (16 * j + k) b) → (∀ (k : Nat) (b : Bk), i ≤ k → bl[k]? = some b → k ≠ i ∨ i = w → mbR mq A (16 * j + k) b) → ∃ m', f_X9_drops_29 K A (nI j) x2 f mq (nI (16 * j + i)) = some (nI (bl.length - 1), m') ∧ MS K m' A ∧ zM m' A ∧ gI m' (A + 3) j = nI (bl.length - 1) ∧ fr (WJ A j) m m' ∧ ∀ (k : Nat) (b : Bk), (bl.eraseIdx w)[k]? = some b → mbR m' A (16 * j + k) b
  | 0, _, _, _, _, h, _, _, _, _, _, _ => absurd h (Nat.not_lt_zero _)
  | f + 1, i, mq, hwi, hi, hf, h, hz, h3, hfr, h1, h2 => by
    have unf : f_X9_drops_29 K A (nI j) x2 (f + 1) mq (nI (16 * j + i)) = f_X9_drops_29B K A (nI j) x2 (f_X9_drops_29 K A (nI j) x2 f) mq (nI (16 * j + i)) := rfl
    rw [unf]
    unfold f_X9_drops_29B
    rw [h.d2, bind_e, h.g2 (by omega), bind_e, h3, show (16 : Int32) = nI 16 from rfl, nI_mul, nI_add]
    have hel : (bl.eraseIdx w).length = bl.length - 1 := List.length_eraseIdx_of_lt hw
    by_cases c : bl.length - 1 ≤ i
    · rw [if_pos ((nI_leI (by omega) (by omega)).mpr (by omega)), bind_e, h.g2 (by omega), bind_e, h3]
      refine ⟨mq, rfl, h, hz, h3, hfr, fun k b hk => h1 k b ?_ hk⟩
      have := (List.getElem?_eq_some_iff.mp hk).1
      omega
    · rw [if_neg (fun z => by have := (nI_leI (by omega) (by omega)).mp z; omega)]
      obtain ⟨m1, e1, e2, e3⟩ := dr_47 (K := K) (m := mq) (q := 16 * j + i) (x1 := nI j) (x2 := x2) (k29 := f_X9_drops_29 K A (nI j) x2 f) (by omega) hz FU 0 mq (by omega) (by rw [FU_e]; omega) h (fr.refl mq) (fun k hk => absurd hk (Nat.not_lt_zero _))
      have e1 : f_X9_drops_47 K A (nI j) x2 (f_X9_drops_29 K A (nI j) x2 f) FU mq (nI (16 * j + i)) (0 : Int32) = _ := e1
      rw [e1]
      obtain ⟨b', hb'⟩ := get_some (l := bl) (i := i + 1) (by omega)
      have hbk := hok b' (List.mem_of_getElem? hb')
      have hmv : mbR m1 A (16 * j + i) b' := by
        obtain ⟨d4, d5, d6, d7, d8, d9⟩ := e2
        refine (h2 (i + 1) b' (by omega) hb' (Or.inl (by omega))).move (fun n hn => ?_) d5 d6 d7 d8 d9
        exact d4 n (by have := hbk.2.2.1; omega)
      have hei : (bl.eraseIdx w)[i]? = some b' := by
        rw [List.getElem?_eraseIdx, if_neg (by omega)]; exact hb'
      have hzz : zM m1 A := zM_WW hz e3 hmv
      have f2 := hfr.trans (e3.mono (fun a k z => WW_WJ (by omega) z))
      obtain ⟨m2, r1, r2, r3, r4, r5, r6⟩ := dr_29 (K := K) (m := m) (x2 := x2) hj hl hw hok hb f (i + 1) m1 (by omega) (by omega) (by omega) (h.on e3) hzz ((e3.I (fun z => by unfold WW at z; omega)).trans h3) f2 (fun k b hk hx => by
        by_cases ck : k = i
        · rw [ck, hei] at hx
          cases hx
          rw [ck]; exact hmv
        · have hb200 := (hok b (List.mem_of_mem_eraseIdx (List.mem_of_getElem? hx))).2.2.1
          exact (h1 k b (by omega) hx).off hb200 (by omega) e3) (fun k b hk hx hor => by
        have hb200 := (hok b (List.mem_of_getElem? hx)).2.2.1
        exact (h2 k b (by omega) hx (Or.inl (by omega))).off hb200 (by omega) e3)
      rw [← Nat.add_assoc] at r1
      exact ⟨m2, r1, r2, r3, r4, r5, r6⟩
theorem mdrops_ok {K : Kn} {m : Mem} {A : Nat} {s : St} (hok : stOk s) (h : RM K m A s) (x k : Int32) : okM K m A (F_X9_drops K m A x k) (nDrops s x k).1 (nDrops s x k).2 := by
  unfold F_X9_drops f_X9_drops
  rcases isBlock_ok hok h x k with ⟨hb, hn⟩ | ⟨S, j, n, b, hs, hj, rfl, rfl, hnl, hbl, hb, hS, hbok, hm, hmb, h64, hn⟩
  · rw [hn, bind_e, if_pos rfl]
    have : nDrops s x k = (-2, s) := by
      unfold nDrops
      unfold bko at hb
      cases hs : sl s x with
      | none => rfl
      | some S =>
        rw [hs] at hb
        dsimp only at hb ⊢
        by_cases c : k < 0
        · rw [if_pos c]
        · rw [if_neg c] at hb ⊢
          rw [if_neg (fun z => by rw [List.getElem?_eq_getElem z] at hb; cases hb)]
    rw [this]; exact okM.same h
  · have hn16 := hS.2.2.2.2.2.2.2.1
    rw [hn, bind_e, if_neg (by decide)]
    unfold nDrops
    rw [hs]
    dsimp only
    rw [if_neg (fun z => by have := (nI_ltI (b := 0) (by omega) (by omega)).mp z; omega), nI_clamp (by omega), if_pos hnl, nI_clamp (by omega), h.1.d2, bind_e, h.1.g2 (by omega), bind_e, hm.2.2.1, show (1 : Int32) = nI 1 from rfl, pk_sub (by omega), h.1.s2 (by omega), bind_e, bd_e, show (16 : Int32) = nI 16 from rfl, nI_mul, nI_add]
    have f1 : fr (fun a i => a = A + 3 ∧ i = j) m (sI m (A + 3) j (nI (S.2.2.2.length - 1))) := fr_sI ⟨rfl, rfl⟩
    obtain ⟨m2, r1, r2, r3, r4, r5, r6⟩ := dr_29 (K := K) (m := m) (w := n) (x2 := nI n) hj hn16 hnl (fun b hb => (hS.2.2.2.2.2.2.2.2.1 b hb).1) hm.2.2.2.1 FU n _ (Nat.le_refl _) (by omega) (by rw [FU_e]; omega) (h.1.on f1) (h.2.2.2.2.on f1 (fun k z => by omega)) gI_sI_s (f1.mono (fun a k z => Or.inr (Or.inl z))) (fun k b hk hx => by
      rw [List.getElem?_eraseIdx, if_pos hk] at hx
      exact (hm.2.2.2.1 k b hx).on f1 (fun i _ z => by omega) (fun a _ _ z => by omega)) (fun k b hk hx _ => (hm.2.2.2.1 k b hx).on f1 (fun i _ z => by omega) (fun a _ _ z => by omega))
    rw [r1]
    obtain ⟨a1, a2, a3, a4, L, l1, l2, l3⟩ := hm
    refine okM.up hok h hj (WJ_UP r5 (fun _ => r3)) ⟨(r5.I (fun z => by unfold WJ at z; omega)).trans a1, (r5.I (fun z => by unfold WJ at z; omega)).trans a2, ?_, r6, L, l1, (r5.I (fun z => by unfold WJ at z; omega)).trans l2, fun i y hy => ⟨(r5.I (fun z => by unfold WJ at z; omega)).trans (l3 i y hy).1, (r5.J (fun z => by unfold WJ at z; omega)).trans (l3 i y hy).2⟩⟩
    rw [r4]
    congr 1
    exact (List.length_eraseIdx_of_lt hnl).symm
theorem RM.tape {K : Kn} {A : Nat} {m m' : Mem} {s s' : St} {W : Nat → Nat → Prop} (hok : stOk s) (h : RM K m A s) (e : fr W m m') (hw : ∀ a k, W a k → (a = A ∧ k = 13) ∨ a = A + 13) (hs : s'.1 = s.1) (h13 : gI m' A 13 = nI s'.2.2) (ht : ∀ i, i < s'.2.2 → gI m' (A + 13) i = nI (s'.2.1 i)) : RM K m' A s' := by
  have nW : ∀ a k, ¬ (a = A ∧ k = 13) → a ≠ A + 13 → ¬ W a k := fun a k h1 h2 z => by have := hw a k z; omega
  obtain ⟨h1, h2, h3, h4, h5⟩ := h
  refine ⟨h1.on e, fun j hj => ?_, h13, ht, h5.on e (fun k => nW _ _ (by omega) (by omega))⟩
  rw [hs]
  have := h2 j hj
  cases hx : s.1 j with
  | none => rw [hx] at this; exact (e.I (nW _ _ (by omega) (by omega))).trans this
  | some S =>
    rw [hx] at this
    obtain ⟨a1, a2, a3, a4, L, l1, l2, l3⟩ := this
    exact ⟨(e.I (nW _ _ (by omega) (by omega))).trans a1, (e.I (nW _ _ (by omega) (by omega))).trans a2, (e.I (nW _ _ (by omega) (by omega))).trans a3, fun k b hb => (a4 k b hb).on e (fun i _ => nW _ _ (by omega) (by omega)) (fun a _ _ => nW _ _ (by omega) (by omega)), L, l1, (e.I (nW _ _ (by omega) (by omega))).trans l2, fun i y hy => ⟨(e.I (nW _ _ (by omega) (by omega))).trans (l3 i y hy).1, (e.J (nW _ _ (by omega) (by omega))).trans (l3 i y hy).2⟩⟩
theorem mend_ok' {K : Kn} {m : Mem} {A : Nat} {s : St} (hok : stOk s) (h : RM K m A s) (n : Int32) : okM K m A (F_X9_end K m A n) (nEnd s n).1 (nEnd s n).2 := by
  unfold F_X9_end f_X9_end nEnd
  have h200 := hok.2.1
  rw [h.2.2.1, nI_long (by omega)]
  rcases in_w s.2.2 (by omega) n with ⟨hi, c1 | ⟨c1, c2⟩⟩ | ⟨hi, c1, c2⟩
  · rw [hi, bind_e, if_pos rfl, if_pos c1]; exact okM.same h
  · rw [hi, bind_e, if_pos rfl, if_neg c1, if_neg c2]; exact okM.same h
  · rw [hi, bind_e, if_neg (by decide), if_neg c1, if_pos c2, bd_e]
    obtain ⟨k, hk, rfl, hkc⟩ := idx_nI c1
    have hk2 : k ≤ s.2.2 := (nI_leI hk (by omega)).mp c2
    rw [hkc]
    have fM : fr (fun a i => a = A ∧ i = 13) m (sI m A 13 (nI k)) := fr_sI ⟨rfl, rfl⟩
    refine ⟨_, rfl, h.tape (s' := (s.1, s.2.1, k)) hok fM (fun a k z => Or.inl z) rfl gI_sI_s (fun i hi => (fM.I (fun z => by omega)).trans (h.2.2.2.1 i (by show i < s.2.2; have : i < k := hi; omega))), fun a ha j => ?_, rfl⟩
    have : a ≠ A := by unfold off at ha; omega
    exact ⟨fM.I (fun z => this z.1), fM.J (fun z => this z.1), fM.R a j⟩
theorem mtaped_ok {K : Kn} {m : Mem} {A : Nat} {s : St} (h : RM K m A s) : f_X9_taped K m A = some (nI s.2.2) := by
  unfold f_X9_taped
  rw [h.2.2.1]
/-- a cell of another kind -/
theorem KM.up {K : Kn} {A b : Nat} {k : Kd} (h : KM K A) : KM (upK K b k) A := by
  unfold KM at h ⊢
  obtain ⟨h1, h2, h3, h4, h5, h6, h7, h8, h9, h10, h11, h12, h13, h14, h15, h16, h17, h18, h19, h20, h21, h22, h23⟩ := h
  exact ⟨upK_old h1, upK_old h2, upK_old h3, upK_old h4, upK_old h5, upK_old h6, upK_old h7, upK_old h8, upK_old h9, upK_old h10, upK_old h11, upK_old h12, upK_old h13, upK_old h14, upK_old h15, upK_old h16, upK_old h17, upK_old h18, upK_old h19, upK_old h20, upK_old h21, upK_old h22, upK_old h23⟩
def selF (a b c d e : Int32) (k : Nat) : Int32 := if k < 4 then a else if k < 8 then b else if k < 12 then c else if k < 16 then d else e
theorem feed_42 {K : Kn} {A b2 n : Nat} {x1 x2 x3 x4 x5 : Int32} (hn : n + 20 ≤ 200) (hb2 : A + 24 ≤ b2) (hlen : lenK K b2 = 5) : ∀ (f k : Nat) (m mq : Mem), k ≤ 20 → 20 - k < f → MS K mq A → gI mq A 13 = nI n → (gI mq b2 0 = x1 ∧ gI mq b2 1 = x2 ∧ gI mq b2 2 = x3 ∧ gI mq b2 3 = x4 ∧ gI mq b2 4 = x5) → fr (fun a j => a = A + 13 ∧ n ≤ j) m mq → (∀ i, i < k → gI mq (A + 13) (n + i) = nI (i32N (selF x1 x2 x3 x4 x5 i) / 2 ^ (24 - 8 * (i % 4)) % 256)) → ∃ m', f_X9_feed_42 K A x1 x2 x3 x4 x5 f mq b2 (nI k) = some (nI (n + 20), m') ∧ gI m' A 13 = nI (n + 20) ∧ fr (fun a j => (a = A ∧ j = 13) ∨ (a = A + 13 ∧ n ≤ j)) m m' ∧ ∀ i, i < 20 → gI m' (A + 13) (n + i) = nI (i32N (selF x1 x2 x3 x4 x5 i) / 2 ^ (24 - 8 * (i % 4)) % 256)
  | 0, _, _, _, _, h, _, _, _, _, _ => absurd h (Nat.not_lt_zero _)
  | f + 1, k, m, mq, hk, hf, h, h13, hx, hfr, hc => by
    have unf : f_X9_feed_42 K A x1 x2 x3 x4 x5 (f + 1) mq b2 (nI k) = f_X9_feed_42B K A x1 x2 x3 x4 x5 (f_X9_feed_42 K A x1 x2 x3 x4 x5 f) mq b2 (nI k) := rfl
    rw [unf]
    unfold f_X9_feed_42B
    have i1 : nI 20 ≤ nI k ↔ 20 ≤ k := nI_leI (by omega) (by omega)
    rw [h13, show (20 : Int32) = nI 20 from rfl, nI_add]
    by_cases c : 20 ≤ k
    · rw [if_pos (i1.mpr c), bd_e, gI_sI_s]
      have fM : fr (fun a j => a = A ∧ j = 13) mq (sI mq A 13 (nI (n + 20))) := fr_sI ⟨rfl, rfl⟩
      exact ⟨_, rfl, gI_sI_s, (hfr.mono (fun a j z => Or.inr z)).trans (fM.mono (fun a j z => Or.inl z)), fun i hi => (fM.I (fun z => by omega)).trans (hc i (by omega))⟩
    · rw [if_neg (fun z => c (i1.mp z)), h.d12, bind_e, show (4 : Int32) = nI 4 from rfl, pk_rem (by omega) (by omega) (by omega), pk_div (by omega) (by omega) (by omega), alI_n hlen (by omega) (by omega), bind_e, show (24 : Int32) = nI 24 from rfl, show (8 : Int32) = nI 8 from rfl, nI_mul, pk_sub (by omega), nI_add]
      have hsel : gI mq b2 (k / 4) = selF x1 x2 x3 x4 x5 k := by
        obtain ⟨y1, y2, y3, y4, y5⟩ := hx
        unfold selF
        by_cases c1 : k < 4
        · rw [if_pos c1, show k / 4 = 0 by omega]; exact y1
        rw [if_neg c1]
        by_cases c2 : k < 8
        · rw [if_pos c2, show k / 4 = 1 by omega]; exact y2
        rw [if_neg c2]
        by_cases c3 : k < 12
        · rw [if_pos c3, show k / 4 = 2 by omega]; exact y3
        rw [if_neg c3]
        by_cases c4 : k < 16
        · rw [if_pos c4, show k / 4 = 3 by omega]; exact y4
        · rw [if_neg c4, show k / 4 = 4 by omega]; exact y5
      have hv : iushr (selF x1 x2 x3 x4 x5 k) (nI (24 - 8 * (k % 4))) &&& (255 : Int32) = nI (i32N (selF x1 x2 x3 x4 x5 k) / 2 ^ (24 - 8 * (k % 4)) % 256) := by
        have := ius (i32N_lt (selF x1 x2 x3 x4 x5 k)) (24 - 8 * (k % 4)) (by omega)
        rw [nI_i32N] at this
        rw [this]
        exact fa_mask _ 8
      rw [hsel, hv, h.s12 (by omega), bind_e, bd_e, nI_1]
      have fM : fr (fun a j => a = A + 13 ∧ n ≤ j) mq (sI mq (A + 13) (n + k) (nI (i32N (selF x1 x2 x3 x4 x5 k) / 2 ^ (24 - 8 * (k % 4)) % 256))) := fr_sI ⟨rfl, by omega⟩
      obtain ⟨y1, y2, y3, y4, y5⟩ := hx
      exact feed_42 hn hb2 hlen f (k + 1) m _ (by omega) (by omega) (h.on fM) ((fM.I (fun z => by omega)).trans h13) ⟨(fM.I (fun z => by omega)).trans y1, (fM.I (fun z => by omega)).trans y2, (fM.I (fun z => by omega)).trans y3, (fM.I (fun z => by omega)).trans y4, (fM.I (fun z => by omega)).trans y5⟩ (hfr.trans fM) (fun i hi => by
        by_cases ci : i = k
        · rw [ci, gI_sI_s]
        · rw [gI_sI_n (Or.inr (by omega))]; exact hc i (by omega))
theorem mfeed_ok {K : Kn} {m : Mem} {A : Nat} {s : St} (hok : stOk s) (h : RM K m A s) (hK : K (szm m) = none) (hsz : A + 24 ≤ szm m) (a b c d e : Int32) : ∃ m', F_X9_feed K m A a b c d e = some ((nFeed s a b c d e).1, m') ∧ RM K m' A (nFeed s a b c d e).2 ∧ eqOn (fun q => off A 24 q ∧ q < szm m) m m' ∧ szm m ≤ szm m' := by
  unfold F_X9_feed f_X9_feed nFeed
  have h200 := hok.2.1
  rw [h.2.2.1]
  have i1 : nI s.2.2 ≤ (180 : Int32) ↔ s.2.2 ≤ 180 := nI_leI (b := 180) (by omega) (by omega)
  by_cases c0 : s.2.2 + 20 ≤ 200
  · rw [if_pos (i1.mpr (by omega)), if_pos c0, bd_e, bd_e, bd_e]
    have hlen : lenK (upK K (szm m) (.inr (0, 5))) (szm m) = 5 := lenK_of (upK_new hK)
    have gb : ∀ a k, a ≠ szm m → gI (bump m) a k = gI m a k ∧ gJ (bump m) a k = gJ m a k ∧ gR (bump m) a k = gR m a k := fun a k ha => ⟨if_neg ha, if_neg ha, if_neg ha⟩
    have hMb : MS (upK K (szm m) (.inr (0, 5))) (bump m) A := ⟨h.1.1.up, fun k hk => by rw [(gb _ _ (by omega)).2.2]; exact h.1.2.1 k hk, fun k hk => by rw [(gb _ _ (by omega)).2.2]; exact h.1.2.2.1 k hk, fun k hk => by rw [(gb _ _ (by omega)).2.2]; exact h.1.2.2.2.1 k hk, fun k hk => by rw [(gb _ _ (by omega)).2.2]; exact h.1.2.2.2.2 k hk⟩
    rw [show (0 : Int32) = nI 0 from rfl, show (1 : Int32) = nI 1 from rfl, show (2 : Int32) = nI 2 from rfl, show (3 : Int32) = nI 3 from rfl, show (4 : Int32) = nI 4 from rfl, asI_n hlen (by omega) (by omega), bind_e, asI_n hlen (by omega) (by omega), bind_e, asI_n hlen (by omega) (by omega), bind_e, asI_n hlen (by omega) (by omega), bind_e, asI_n hlen (by omega) (by omega), bind_e]
    have f5 : fr (fun q _ => q = szm m ∧ True) (bump m) (sI (sI (sI (sI (sI (bump m) (szm m) 0 a) (szm m) 1 b) (szm m) 2 c) (szm m) 3 d) (szm m) 4 e) := ((((fr_sI ⟨rfl, trivial⟩).trans (fr_sI ⟨rfl, trivial⟩)).trans (fr_sI ⟨rfl, trivial⟩)).trans (fr_sI ⟨rfl, trivial⟩)).trans (fr_sI ⟨rfl, trivial⟩)
    have y5 : gI (sI (sI (sI (sI (sI (bump m) (szm m) 0 a) (szm m) 1 b) (szm m) 2 c) (szm m) 3 d) (szm m) 4 e) (szm m) 0 = a ∧ gI (sI (sI (sI (sI (sI (bump m) (szm m) 0 a) (szm m) 1 b) (szm m) 2 c) (szm m) 3 d) (szm m) 4 e) (szm m) 1 = b ∧ gI (sI (sI (sI (sI (sI (bump m) (szm m) 0 a) (szm m) 1 b) (szm m) 2 c) (szm m) 3 d) (szm m) 4 e) (szm m) 2 = c ∧ gI (sI (sI (sI (sI (sI (bump m) (szm m) 0 a) (szm m) 1 b) (szm m) 2 c) (szm m) 3 d) (szm m) 4 e) (szm m) 3 = d ∧ gI (sI (sI (sI (sI (sI (bump m) (szm m) 0 a) (szm m) 1 b) (szm m) 2 c) (szm m) 3 d) (szm m) 4 e) (szm m) 4 = e := by
      refine ⟨?_, ?_, ?_, ?_, gI_sI_s⟩
      · rw [gI_sI_n (Or.inr (by decide)), gI_sI_n (Or.inr (by decide)), gI_sI_n (Or.inr (by decide)), gI_sI_n (Or.inr (by decide)), gI_sI_s]
      · rw [gI_sI_n (Or.inr (by decide)), gI_sI_n (Or.inr (by decide)), gI_sI_n (Or.inr (by decide)), gI_sI_s]
      · rw [gI_sI_n (Or.inr (by decide)), gI_sI_n (Or.inr (by decide)), gI_sI_s]
      · rw [gI_sI_n (Or.inr (by decide)), gI_sI_s]
    generalize sI (sI (sI (sI (sI (bump m) (szm m) 0 a) (szm m) 1 b) (szm m) 2 c) (szm m) 3 d) (szm m) 4 e = M at f5 y5 ⊢
    obtain ⟨m', r1, r2, r3, r4⟩ := feed_42 (x1 := a) (x2 := b) (x3 := c) (x4 := d) (x5 := e) c0 hsz hlen FU 0 M M (by omega) (by rw [FU_e]; omega) (hMb.on f5) (by rw [f5.I (fun z => by omega), (gb _ _ (by omega)).1]; exact h.2.2.1) y5 (fr.refl M) (fun i hi => absurd hi (Nat.not_lt_zero _))
    refine ⟨m', r1, ?_, fun q hq k => ?_, ?_⟩
    · have eqA : ∀ a k, A ≤ a → a < A + 24 → gI M a k = gI m a k ∧ gJ M a k = gJ m a k ∧ gR M a k = gR m a k := fun a k h1 h2 => ⟨(f5.I (fun z => by omega)).trans (gb _ _ (by omega)).1, (f5.J (fun z => by omega)).trans (gb _ _ (by omega)).2.1, (f5.R a k).trans (gb _ _ (by omega)).2.2⟩
      have nn : ∀ a k, A ≤ a → a < A + 24 → ¬ (a = A ∧ k = 13) → a ≠ A + 13 → gI m' a k = gI m a k ∧ gJ m' a k = gJ m a k := fun a k h1 h2 h3 h4 => ⟨(r3.I (fun z => by omega)).trans (eqA a k h1 h2).1, (r3.J (fun z => by omega)).trans (eqA a k h1 h2).2.1⟩
      have nR : ∀ a k, A ≤ a → a < A + 24 → gR m' a k = gR m a k := fun a k h1 h2 => (r3.R a k).trans (eqA a k h1 h2).2.2
      obtain ⟨h1, h2, h3, h4, h5⟩ := h
      refine ⟨⟨h1.1, fun k hk => (nR _ _ (by omega) (by omega)).trans (h1.2.1 k hk), fun k hk => (nR _ _ (by omega) (by omega)).trans (h1.2.2.1 k hk), fun k hk => (nR _ _ (by omega) (by omega)).trans (h1.2.2.2.1 k hk), fun k hk => (nR _ _ (by omega) (by omega)).trans (h1.2.2.2.2 k hk)⟩, fun j hj => ?_, r2, fun i hi => ?_, fun q hq => by rw [(nn _ _ (by omega) (by omega) (by omega) (by omega)).1]; exact h5 q hq⟩
      · show smX m' A j (s.1 j)
        have := h2 j hj
        cases hx : s.1 j with
        | none => rw [hx] at this; exact (nn _ _ (by omega) (by omega) (by omega) (by omega)).1.trans this
        | some S =>
          rw [hx] at this
          obtain ⟨a1, a2, a3, a4, L, l1, l2, l3⟩ := this
          exact ⟨(nn _ _ (by omega) (by omega) (by omega) (by omega)).1.trans a1, (nn _ _ (by omega) (by omega) (by omega) (by omega)).1.trans a2, (nn _ _ (by omega) (by omega) (by omega) (by omega)).1.trans a3, fun k b hb => (a4 k b hb).eq (fun i _ => (nn _ _ (by omega) (by omega) (by omega) (by omega)).1) (nn _ _ (by omega) (by omega) (by omega) (by omega)).1 (nn _ _ (by omega) (by omega) (by omega) (by omega)).1 (nn _ _ (by omega) (by omega) (by omega) (by omega)).1 (nn _ _ (by omega) (by omega) (by omega) (by omega)).1 (fun _ => (nn _ _ (by omega) (by omega) (by omega) (by omega)).1), L, l1, (nn _ _ (by omega) (by omega) (by omega) (by omega)).1.trans l2, fun i y hy => ⟨(nn _ _ (by omega) (by omega) (by omega) (by omega)).1.trans (l3 i y hy).1, (nn _ _ (by omega) (by omega) (by omega) (by omega)).2.trans (l3 i y hy).2⟩⟩
      · have hi : i < s.2.2 + 20 := hi
        show gI m' (A + 13) i = nI (fedB s.2.2 s.2.1 a b c d e i)
        unfold fedB
        by_cases ci : i < s.2.2
        · rw [if_pos ci, r3.I (fun z => by omega), (eqA _ _ (by omega) (by omega)).1]; exact h4 i ci
        · rw [if_neg ci]
          have := r4 (i - s.2.2) (by omega)
          rw [show s.2.2 + (i - s.2.2) = i by omega] at this
          exact this
    · have hq1 : q < A ∨ A + 24 ≤ q := hq.1
      have hq2 := hq.2
      exact ⟨(r3.I (fun z => by omega)).trans ((f5.I (fun z => by omega)).trans (gb _ _ (by omega)).1), (r3.J (fun z => by omega)).trans ((f5.J (fun z => by omega)).trans (gb _ _ (by omega)).2.1), (r3.R q k).trans ((f5.R q k).trans (gb _ _ (by omega)).2.2)⟩
    · have e1 : szm m' = szm M := r3.2.1
      have e2 : szm M = szm (bump m) := f5.2.1
      have e3 : szm (bump m) = szm m + 1 := rfl
      omega
  · rw [if_neg (fun z => c0 (by have := i1.mp z; omega)), if_neg c0]
    exact ⟨m, rfl, h, eqOn.refl m, Nat.le_refl _⟩
