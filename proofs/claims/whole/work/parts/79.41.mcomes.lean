/-! ===== the reference seals, begins a block; a point comes ===== -/
theorem seals0_ok {K : Kn} {m : Mem} {A q p : Nat} {b : Bk} {c : Cs} {l : List PtR} (h : MS K m A) (hq : q < 80) (hb : bkOk b) (ho : b.2.2.1 = false) (hr : rsB b = .inr (p, c, l)) (hm : mbR m A q b) (hcs : csM m A c) : ∃ m', F_X9_seals0 K m A (nI q) = some m' ∧ mbR m' A q (clB b) ∧ fr (WW A q) m m' ∧ (∀ j, gI m' A j = gI m A j) ∧ (∀ a j, gJ m' a j = gJ m a j) := by
  obtain ⟨f1, f2, f3, f4, f5, f6, f7, f8, f9, f10, f11⟩ := rs_facts hb hr
  have h199 := (hb.2.2.2.2.1 ho).1
  have h14 := hb.2.1
  have hy := hm.by hb
  unfold F_X9_seals0 f_X9_seals0
  rw [h.d7, bind_e, headStamp_ok h hq (by omega) hy h14, bind_e, l2i_lN, h.s7 hq, bind_e]
  have s1 : MS K (sI m (A + 8) q (nI (hst b.1))) A := h.on (fr_sI (W := fun _ _ => True) trivial)
  rw [s1.d8, bind_e, gJ_sI, hcs.1, l2i_lN, s1.s8 hq, bind_e]
  have s2 : MS K (sI (sI m (A + 8) q (nI (hst b.1))) (A + 9) q (nI c.1)) A := s1.on (fr_sI (W := fun _ _ => True) trivial)
  have fa : fr (fun a _ => a = A + 8 ∨ a = A + 9) m (sI (sI m (A + 8) q (nI (hst b.1))) (A + 9) q (nI c.1)) := (fr_sI (Or.inl rfl)).trans (fr_sI (Or.inr rfl))
  have hy2 := hy.on fa (fun i _ z => by omega)
  have e5 : gI (sI (sI m (A + 8) q (nI (hst b.1))) (A + 9) q (nI c.1)) (A + 5) q = nI b.2.1 := (fa.I (fun z => by omega)).trans hm.2.1
  simp only [s2.d3, s2.d4, bind_e, s2.g4 hq, e5, mchk_ok s2 hq (by omega) hy2, show (200 : Int32) = nI 200 from rfl, nI_mul, nI_add, s2.s3 (show 200 * q + b.2.1 < 16000 by omega)]
  have s3 : MS K (sI (sI (sI m (A + 8) q (nI (hst b.1))) (A + 9) q (nI c.1)) (A + 4) (200 * q + b.2.1) (nI (chk b.1 b.2.1))) A := s2.on (fr_sI (W := fun _ _ => True) trivial)
  rw [s3.d4, bind_e, s3.g4 hq, bind_e, gI_sI_n (Or.inl (by omega)), e5, nI_1, s3.s4 hq, bind_e]
  have s4 : MS K (sI (sI (sI (sI m (A + 8) q (nI (hst b.1))) (A + 9) q (nI c.1)) (A + 4) (200 * q + b.2.1) (nI (chk b.1 b.2.1))) (A + 5) q (nI (b.2.1 + 1))) A := s3.on (fr_sI (W := fun _ _ => True) trivial)
  rw [s4.d6, bind_e, s4.s6 hq (Or.inr rfl), bind_e]
  refine ⟨_, rfl, ⟨fun i hi => ?_, ?_, ?_, fun _ => ⟨?_, ?_⟩, (fun z => by cases z)⟩, ?_, ?_, fun _ _ => rfl⟩
  · show _ = nI (if i = b.2.1 then chk b.1 b.2.1 else b.1 i)
    have hi : i < b.2.1 + 1 := hi
    rw [gI_sI_n (Or.inl (by omega)), gI_sI_n (Or.inl (by omega))]
    by_cases c1 : i = b.2.1
    · rw [if_pos c1, c1, gI_sI_s]
    · rw [if_neg c1, gI_sI_n (Or.inr (by omega)), gI_sI_n (Or.inl (by omega)), gI_sI_n (Or.inl (by omega))]
      exact hm.1 i (by omega)
  · rw [gI_sI_n (Or.inl (by omega)), gI_sI_s]; rfl
  · rw [gI_sI_s]; rfl
  · rw [gI_sI_n (Or.inl (by omega)), gI_sI_n (Or.inl (by omega)), gI_sI_n (Or.inl (by omega)), gI_sI_n (Or.inl (by omega)), gI_sI_s, f11]; rfl
  · rw [gI_sI_n (Or.inl (by omega)), gI_sI_n (Or.inl (by omega)), gI_sI_n (Or.inl (by omega)), gI_sI_s, f10]; rfl
  · exact (((((fr_sI (Or.inr (Or.inr ⟨by omega, rfl⟩))).trans (fr_sI (Or.inr (Or.inr ⟨by omega, rfl⟩)))).trans (fr_sI (Or.inr (Or.inl ⟨rfl, by omega, by omega⟩)))).trans (fr_sI (Or.inr (Or.inr ⟨by omega, rfl⟩)))).trans (fr_sI (Or.inr (Or.inr ⟨by omega, rfl⟩))))
  · intro j
    rw [gI_sI_n (Or.inl (by omega)), gI_sI_n (Or.inl (by omega)), gI_sI_n (Or.inl (by omega)), gI_sI_n (Or.inl (by omega)), gI_sI_n (Or.inl (by omega))]
theorem head_byte (x : Int64) {e : Nat} (he : e ≤ 56) : ((lshr x (nI e)) &&& (255 : Int64)).toInt32 = nI (uN x / 2 ^ e % 256) := by
  have := sar_mask x (k := e) (w := 8) (by omega) (by omega) (by omega)
  have e2 : lshr x (nI e) &&& (255 : Int64) = lN (uN x / 2 ^ e % 2 ^ 8) := this
  rw [e2, l2i_lN]
def WH (A q : Nat) : Nat → Nat → Prop := fun a k => a = A + 4 ∧ 200 * q ≤ k ∧ k < 200 * q + 14
theorem wh_46 {K : Kn} {A q t : Nat} {v : Int64} (hq : q < 80) : ∀ (f k : Nat) (m : Mem), k ≤ 8 → 8 - k < f → MS K m A → (∀ i, i < 4 + k → gI m (A + 4) (200 * q + i) = nI (hdF t v i)) → ∃ m', f_X9_writesHead_46 K A (nI q) (lN t) v f m (nI k) = some m' ∧ mbR m' A q (nwB t v) ∧ csM m' A (t, 0, v, none) ∧ gI m' A 20 = nI 0 ∧ fr (WW A q) m m'
  | 0, _, _, _, h, _, _ => absurd h (Nat.not_lt_zero _)
  | f + 1, k, m, hk, hf, h, hb => by
    have unf : f_X9_writesHead_46 K A (nI q) (lN t) v (f + 1) m (nI k) = f_X9_writesHead_46B K A (nI q) (lN t) v (f_X9_writesHead_46 K A (nI q) (lN t) v f) m (nI k) := rfl
    rw [unf]
    unfold f_X9_writesHead_46B
    by_cases c : 8 ≤ k
    · rw [if_pos (show (8 : Int32) ≤ nI k from (nI_leI (a := 8) (by omega) (by omega)).mpr c), show (200 : Int32) = nI 200 from rfl, show (12 : Int32) = nI 12 from rfl, show (13 : Int32) = nI 13 from rfl, nI_mul, nI_add, nI_add, h.d3, bind_e, h.s3 (by omega), bind_e]
      have s1 : MS K (sI m (A + 4) (200 * q + 12) 0) A := h.on (fr_sI (W := fun _ _ => True) trivial)
      rw [s1.d3, bind_e, s1.s3 (by omega), bind_e]
      have s2 : MS K (sI (sI m (A + 4) (200 * q + 12) 0) (A + 4) (200 * q + 13) 1) A := s1.on (fr_sI (W := fun _ _ => True) trivial)
      rw [s2.d5, bind_e, s2.s5 hq, bind_e]
      have s3 : MS K (sI (sI (sI m (A + 4) (200 * q + 12) 0) (A + 4) (200 * q + 13) 1) (A + 6) q 0) A := s2.on (fr_sI (W := fun _ _ => True) trivial)
      rw [s3.d4, bind_e, s3.s4 hq, bind_e]
      have s4 : MS K (sI (sI (sI (sI m (A + 4) (200 * q + 12) 0) (A + 4) (200 * q + 13) 1) (A + 6) q 0) (A + 5) q 14) A := s3.on (fr_sI (W := fun _ _ => True) trivial)
      rw [s4.d6, bind_e, s4.s6 hq (Or.inl rfl), bind_e]
      have fM : fr (WW A q) m (sI (sI (sI (sI (sI m (A + 4) (200 * q + 12) 0) (A + 4) (200 * q + 13) 1) (A + 6) q 0) (A + 5) q 14) (A + 7) q 0) := ((((fr_sI (Or.inr (Or.inl ⟨rfl, by omega, by omega⟩))).trans (fr_sI (Or.inr (Or.inl ⟨rfl, by omega, by omega⟩)))).trans (fr_sI (Or.inr (Or.inr ⟨by omega, rfl⟩)))).trans (fr_sI (Or.inr (Or.inr ⟨by omega, rfl⟩)))).trans (fr_sI (Or.inr (Or.inr ⟨by omega, rfl⟩)))
      have g4 : ∀ i, i < 14 → gI (sI (sI (sI (sI (sI m (A + 4) (200 * q + 12) 0) (A + 4) (200 * q + 13) 1) (A + 6) q 0) (A + 5) q 14) (A + 7) q 0) (A + 4) (200 * q + i) = nI (hdF t v i) := fun i hi => by
        rw [gI_sI_n (Or.inl (by omega)), gI_sI_n (Or.inl (by omega)), gI_sI_n (Or.inl (by omega))]
        by_cases c1 : i = 13
        · subst c1
          rw [gI_sI_s]
          show 1 = nI (hdF t v 13)
          unfold hdF
          rw [if_neg (by omega), if_neg (by omega), if_neg (by omega)]; rfl
        rw [gI_sI_n (Or.inr (by omega))]
        by_cases c2 : i = 12
        · subst c2
          rw [gI_sI_s]
          unfold hdF
          rw [if_neg (by omega), if_neg (by omega), if_pos rfl]; rfl
        rw [gI_sI_n (Or.inr (by omega))]
        exact hb i (by omega)
      have g5 : gI (sI (sI (sI (sI (sI m (A + 4) (200 * q + 12) 0) (A + 4) (200 * q + 13) 1) (A + 6) q 0) (A + 5) q 14) (A + 7) q 0) (A + 5) q = nI 14 := by rw [gI_sI_n (Or.inl (by omega)), gI_sI_s]; rfl
      have g7 : gI (sI (sI (sI (sI (sI m (A + 4) (200 * q + 12) 0) (A + 4) (200 * q + 13) 1) (A + 6) q 0) (A + 5) q 14) (A + 7) q 0) (A + 7) q = 0 := gI_sI_s
      have g6 : gI (sI (sI (sI (sI (sI m (A + 4) (200 * q + 12) 0) (A + 4) (200 * q + 13) 1) (A + 6) q 0) (A + 5) q 14) (A + 7) q 0) (A + 6) q = 0 := by rw [gI_sI_n (Or.inl (by omega)), gI_sI_n (Or.inl (by omega)), gI_sI_s]
      generalize sI (sI (sI (sI (sI m (A + 4) (200 * q + 12) 0) (A + 4) (200 * q + 13) 1) (A + 6) q 0) (A + 5) q 14) (A + 7) q 0 = M at fM g4 g5 g6 g7 ⊢
      obtain ⟨m2, e1, e2, e3, e4⟩ := heads_ok (K := K) (m := M) (A := A) (t := t) (v := v)
      rw [e1, bind_e]
      refine ⟨m2, rfl, ⟨fun i hi => (e4.I (fun z => by unfold WC at z; omega)).trans (g4 i hi), (e4.I (fun z => by unfold WC at z; omega)).trans g5, (e4.I (fun z => by unfold WC at z; omega)).trans g7, (fun z => by cases z), fun _ p c l hr => ?_⟩, e2, e3, fM.trans (e4.mono (fun a k z => Or.inl z))⟩
      rw [e4.I (fun z => by unfold WC at z; omega), g6]
      have hp0 : p = 0 := by
        have hh : rsB (nwB t v) = .inr (p, c, l) := hr
        unfold rsB at hh
        rw [if_neg (by show ¬ (false = true); decide)] at hh
        have hc1 : hct (nwB t v).1 = 1 := by
          show hct (hdF t v) = 1
          rw [hct_e (hdF_lt t v 12) (hdF_lt t v 13)]
          unfold hdF
          simp
        rw [hc1] at hh
        cases hh
        rfl
      rw [hp0]; rfl
    · rw [if_neg (show ¬ (8 : Int32) ≤ nI k from fun z => c ((nI_leI (a := 8) (by omega) (by omega)).mp z)), h.d3, bind_e, show (200 : Int32) = nI 200 from rfl, show (4 : Int32) = nI 4 from rfl, show (56 : Int32) = nI 56 from rfl, show (8 : Int32) = nI 8 from rfl, nI_mul, nI_add, nI_add, nI_mul, pk_sub (by omega), head_byte v (by omega), h.s3 (by omega), bind_e, bd_e, nI_1]
      have fM : fr (WW A q) m (sI m (A + 4) (200 * q + 4 + k) (nI (uN v / 2 ^ (56 - 8 * k) % 256))) := fr_sI (Or.inr (Or.inl ⟨rfl, by omega, by omega⟩))
      obtain ⟨m2, r1, r2, r3, r4, r5⟩ := wh_46 hq f (k + 1) _ (by omega) (by omega) (h.on fM) (fun i hi => by
        by_cases c1 : i = 4 + k
        · rw [c1, ← Nat.add_assoc, gI_sI_s]
          unfold hdF
          rw [if_neg (by omega), if_pos (by omega), show 4 + k - 4 = k by omega]
        · rw [gI_sI_n (Or.inr (by omega))]; exact hb i (by omega))
      exact ⟨m2, r1, r2, r3, r4, fM.trans r5⟩
theorem wh_3 {K : Kn} {A q t : Nat} {v : Int64} (hq : q < 80) (ht : t ≤ 2000000000) : ∀ (f k : Nat) (m : Mem), k ≤ 4 → 4 - k < f → MS K m A → (∀ i, i < k → gI m (A + 4) (200 * q + i) = nI (hdF t v i)) → ∃ m', f_X9_writesHead_3 K A (nI q) (lN t) v f m (nI k) = some m' ∧ mbR m' A q (nwB t v) ∧ csM m' A (t, 0, v, none) ∧ gI m' A 20 = nI 0 ∧ fr (WW A q) m m'
  | 0, _, _, _, h, _, _ => absurd h (Nat.not_lt_zero _)
  | f + 1, k, m, hk, hf, h, hb => by
    have unf : f_X9_writesHead_3 K A (nI q) (lN t) v (f + 1) m (nI k) = f_X9_writesHead_3B K A (nI q) (lN t) v (f_X9_writesHead_3 K A (nI q) (lN t) v f) m (nI k) := rfl
    rw [unf]
    unfold f_X9_writesHead_3B
    by_cases c : 4 ≤ k
    · rw [if_pos (show (4 : Int32) ≤ nI k from (nI_leI (a := 4) (by omega) (by omega)).mpr c)]
      exact wh_46 hq FU 0 m (by omega) (by rw [FU_e]; omega) h (fun i hi => hb i (by omega))
    · rw [if_neg (show ¬ (4 : Int32) ≤ nI k from fun z => c ((nI_leI (a := 4) (by omega) (by omega)).mp z)), h.d3, bind_e, show (200 : Int32) = nI 200 from rfl, show (24 : Int32) = nI 24 from rfl, show (8 : Int32) = nI 8 from rfl, nI_mul, nI_add, nI_mul, pk_sub (by omega), head_byte (lN t) (by omega), uN_lN (by omega), h.s3 (by omega), bind_e, bd_e, nI_1]
      have fM : fr (WW A q) m (sI m (A + 4) (200 * q + k) (nI (t / 2 ^ (24 - 8 * k) % 256))) := fr_sI (Or.inr (Or.inl ⟨rfl, by omega, by omega⟩))
      obtain ⟨m2, r1, r2, r3, r4, r5⟩ := wh_3 hq ht f (k + 1) _ (by omega) (by omega) (h.on fM) (fun i hi => by
        by_cases c1 : i = k
        · rw [c1, gI_sI_s]
          unfold hdF
          rw [if_pos (by omega)]
        · rw [gI_sI_n (Or.inr (by omega))]; exact hb i (by omega))
      exact ⟨m2, r1, r2, r3, r4, fM.trans r5⟩
theorem writesHead_ok {K : Kn} {m : Mem} {A q t : Nat} {v : Int64} (h : MS K m A) (hq : q < 80) (ht : t ≤ 2000000000) : ∃ m', F_X9_writesHead K m A (nI q) (lN t) v = some m' ∧ mbR m' A q (nwB t v) ∧ csM m' A (t, 0, v, none) ∧ gI m' A 20 = nI 0 ∧ fr (WW A q) m m' :=
  wh_3 hq ht FU 0 m (by omega) (by rw [FU_e]; omega) h (fun i hi => absurd hi (Nat.not_lt_zero _))
theorem zM_WW {m m' : Mem} {A q : Nat} {b : Bk} (h : zM m A) (e : fr (WW A q) m m') (hb : mbR m' A q b) : zM m' A := fun q' hq' => by
  by_cases c : q' = q
  · rw [c, hb.2.2.1]
    cases b.2.2.1
    · exact Or.inl rfl
    · exact Or.inr rfl
  · rw [e.I (fun z => by unfold WW at z; omega)]; exact h q' hq'
/-- room and blocks at a slot -/
def smB (m : Mem) (A j room : Nat) (bl : List Bk) : Prop := gI m (A + 1) j = nI room ∧ gI m (A + 3) j = nI bl.length ∧ ∀ (k : Nat) (b : Bk), bl[k]? = some b → mbR m A (16 * j + k) b
/-- the last point stands at hand -/
def hnd (m : Mem) (A : Nat) (bl : List Bk) : Prop := match opA bl with
  | none => True
  | some (p, c) => csM m A c ∧ gI m A 20 = nI p
def WJ (A j : Nat) : Nat → Nat → Prop := fun a k => (a = A ∧ 14 ≤ k ∧ k ≤ 20) ∨ (a = A + 3 ∧ k = j) ∨ (a = A + 4 ∧ 3200 * j ≤ k ∧ k < 3200 * j + 3200) ∨ ((a = A + 5 ∨ a = A + 6 ∨ a = A + 7 ∨ a = A + 8 ∨ a = A + 9) ∧ 16 * j ≤ k ∧ k < 16 * j + 16)
theorem WW_WJ {A j n a k : Nat} (hn : n < 16) (h : WW A (16 * j + n) a k) : WJ A j a k := by unfold WW at h; unfold WJ; omega
theorem mbR.off {m m' : Mem} {A q q' : Nat} {b : Bk} (h : mbR m A q b) (hb : b.2.1 ≤ 200) (hne : q ≠ q') (e : fr (WW A q') m m') : mbR m' A q b := by
  obtain ⟨h1, h2, h3, h4, h5⟩ := h
  refine ⟨fun i hi => (e.I (fun z => by unfold WW at z; omega)).trans (h1 i hi), (e.I (fun z => by unfold WW at z; omega)).trans h2, (e.I (fun z => by unfold WW at z; omega)).trans h3, fun hs => ⟨(e.I (fun z => by unfold WW at z; omega)).trans (h4 hs).1, (e.I (fun z => by unfold WW at z; omega)).trans (h4 hs).2⟩, fun hs p c l hr => (e.I (fun z => by unfold WW at z; omega)).trans (h5 hs p c l hr)⟩
theorem mbR.on {W : Nat → Nat → Prop} {m m' : Mem} {A q : Nat} {b : Bk} (h : mbR m A q b) (e : fr W m m') (h4 : ∀ i, i < b.2.1 → ¬ W (A + 4) (200 * q + i)) (h5 : ∀ a, A + 5 ≤ a → a ≤ A + 9 → ¬ W a q) : mbR m' A q b := by
  obtain ⟨h1, h2, h3, h4', h5'⟩ := h
  exact ⟨fun i hi => (e.I (h4 i hi)).trans (h1 i hi), (e.I (h5 _ (by omega) (by omega))).trans h2, (e.I (h5 _ (by omega) (by omega))).trans h3, fun hs => ⟨(e.I (h5 _ (by omega) (by omega))).trans (h4' hs).1, (e.I (h5 _ (by omega) (by omega))).trans (h4' hs).2⟩, fun hs p c l hr => (e.I (h5 _ (by omega) (by omega))).trans (h5' hs p c l hr)⟩
/-- the last block is another one then -/
theorem smB_last {m m' : Mem} {A j : Nat} {bl0 : List Bk} {b b' : Bk} (hok : ∀ x ∈ bl0, bkOk x) (h : ∀ (k : Nat) (x : Bk), (bl0 ++ [b])[k]? = some x → mbR m A (16 * j + k) x) (e : fr (WW A (16 * j + bl0.length)) m m') (hb' : mbR m' A (16 * j + bl0.length) b') : ∀ (k : Nat) (x : Bk), (bl0 ++ [b'])[k]? = some x → mbR m' A (16 * j + k) x := fun k x hx => by
  by_cases c : k < bl0.length
  · rw [List.getElem?_append_left c] at hx
    exact (h k x (by rw [List.getElem?_append_left c]; exact hx)).off (hok x (List.mem_of_getElem? hx)).2.2.1 (by omega) e
  · have hk := (List.getElem?_eq_some_iff.mp hx).1
    rw [List.length_append] at hk
    have hk : k = bl0.length := by simp at hk; omega
    rw [hk, List.getElem?_append_right (Nat.le_refl _), Nat.sub_self] at hx
    cases hx
    rw [hk]; exact hb'
theorem smB_more {m m' : Mem} {A j : Nat} {bl : List Bk} {b' : Bk} (hok : ∀ x ∈ bl, bkOk x) (h : ∀ (k : Nat) (x : Bk), bl[k]? = some x → mbR m A (16 * j + k) x) (e : fr (WW A (16 * j + bl.length)) m m') (hb' : mbR m' A (16 * j + bl.length) b') : ∀ (k : Nat) (x : Bk), (bl ++ [b'])[k]? = some x → mbR m' A (16 * j + k) x := fun k x hx => by
  by_cases c : k < bl.length
  · rw [List.getElem?_append_left c] at hx
    exact (h k x hx).off (hok x (List.mem_of_getElem? hx)).2.2.1 (by omega) e
  · have hk := (List.getElem?_eq_some_iff.mp hx).1
    rw [List.length_append] at hk
    have hk : k = bl.length := by simp at hk; omega
    rw [hk, List.getElem?_append_right (Nat.le_refl _), Nat.sub_self] at hx
    cases hx
    rw [hk]; exact hb'
/-- a new block -/
theorem comes_113 {K : Kn} {m : Mem} {A j room t : Nat} {v : Int64} {bl : List Bk} (h : MS K m A) (hj : j < 5) (hl : bl.length < 16) (hok : ∀ x ∈ bl, bkOk x) (hb : smB m A j room bl) (ht : t ≤ 2000000000) : ∃ m', f_X9_comes_113 K A (nI j) (lN t) v m = some ((1 : Int32), m') ∧ smB m' A j room (bl ++ [nwB t v]) ∧ hnd m' A (bl ++ [nwB t v]) ∧ fr (WJ A j) m m' ∧ (zM m A → zM m' A) := by
  obtain ⟨b1, b2, b3⟩ := hb
  unfold f_X9_comes_113
  rw [h.d2, bind_e, h.g2 hj, bind_e, b2, nI_1, h.s2 hj, bind_e]
  have f1 : fr (fun a k => a = A + 3 ∧ k = j) m (sI m (A + 3) j (nI (bl.length + 1))) := fr_sI ⟨rfl, rfl⟩
  have s1 := h.on f1
  rw [s1.d2, bind_e, s1.g2 hj, bind_e, gI_sI_s, show (16 : Int32) = nI 16 from rfl, show (1 : Int32) = nI 1 from rfl, nI_mul, nI_add, pk_sub (by omega), show 16 * j + (bl.length + 1) - 1 = 16 * j + bl.length by omega]
  obtain ⟨m2, e1, e2, e3, e4, e5⟩ := writesHead_ok (K := K) (q := 16 * j + bl.length) (t := t) (v := v) s1 (by omega) ht
  rw [e1, bind_e]
  refine ⟨m2, rfl, ⟨?_, ?_, ?_⟩, ?_, (f1.mono (fun a k z => Or.inr (Or.inl z))).trans (e5.mono (fun a k z => WW_WJ hl z)), fun z => zM_WW (z.on f1 (fun k z => by omega)) e5 e2⟩
  · rw [e5.I (fun z => by unfold WW at z; omega), f1.I (fun z => by omega)]; exact b1
  · rw [e5.I (fun z => by unfold WW at z; omega), gI_sI_s, List.length_append]; rfl
  · exact smB_more hok (fun k x hx => (b3 k x hx).on f1 (fun i _ z => by omega) (fun a _ _ z => by omega)) e5 e2
  · unfold hnd
    rw [opA_f (b := nwB t v) rfl (opn_rs rfl (nwB_opn ht v))]
    exact ⟨e3, e4⟩
/-- a point comes to the blocks of a slot -/
theorem comes_ok {K : Kn} {m : Mem} {A j t : Nat} {v : Int64} {S : Sr} (h : MS K m A) (hj : j < 5) (hS : srOk S) (hb : smB m A j S.1 S.2.2.2) (hh : hnd m A S.2.2.2) (ht1 : S.2.1 < t) (ht : t ≤ 2000000000) : match putS S t v with
    | none => F_X9_comes K m A (nI j) (lN t) v = some ((0 : Int32), m)
    | some S' => ∃ m', F_X9_comes K m A (nI j) (lN t) v = some ((1 : Int32), m') ∧ smB m' A j S.1 S'.2.2.2 ∧ hnd m' A S'.2.2.2 ∧ fr (WJ A j) m m' ∧ (zM m A → zM m' A) := by
  have h16 := hS.2.2.2.2.2.2.2.1
  have h200 := hS.2.1
  have hbok : ∀ x ∈ S.2.2.2, bkOk x := fun x hx => (hS.2.2.2.2.2.2.2.2.1 x hx).1
  have hb0 := hb
  obtain ⟨b1, b2, b3⟩ := hb
  unfold F_X9_comes f_X9_comes f_X9_comes_38
  simp only [h.d2, h.d6, bind_e, h.g2 hj, b2, bd_e]
  have i16 : nI S.2.2.2.length = (16 : Int32) ↔ S.2.2.2.length = 16 := nI_eq (b := 16) (by omega) (by omega)
  rcases last_cases S.2.2.2 with hb' | ⟨bl0, b, hb'⟩
  · have eP : putS S t v = some (S.1, (t : Int), S.2.2.1, [] ++ [nwB t v]) := by
      unfold putS
      rw [hb', opA_nil]
      unfold putN
      rw [hb', clL_nil, if_neg (by simp)]
    rw [eP, if_pos (by rw [hb']; decide)]
    unfold f_X9_comes_39 f_X9_comes_89
    rw [if_pos rfl, h.d2, bind_e, h.g2 hj, bind_e, b2, if_neg (fun z => by rw [hb'] at z; exact absurd z (by decide)), if_pos rfl]
    have hb2 : smB m A j S.1 [] := by rw [hb'] at hb0; exact hb0
    exact comes_113 h hj (by simp) (fun x hx => by simp at hx) hb2 ht
  · have hlen : S.2.2.2.length = bl0.length + 1 := by rw [hb']; simp
    have hget : S.2.2.2[bl0.length]? = some b := by rw [hb']; exact get_last bl0 b
    have hbm := hS.2.2.2.2.2.2.2.2.1 b (by rw [hb']; simp)
    have hmb := b3 _ b hget
    have hok0 : ∀ x ∈ bl0, bkOk x := fun x hx => hbok x (by rw [hb']; simp [hx])
    have idx : (16 : Int32) * nI j + nI S.2.2.2.length - (1 : Int32) = nI (16 * j + bl0.length) := by
      rw [hlen, show (16 : Int32) = nI 16 from rfl, show (1 : Int32) = nI 1 from rfl, nI_mul, nI_add, pk_sub (by omega), show 16 * j + (bl0.length + 1) - 1 = 16 * j + bl0.length by omega]
    rw [idx, if_neg (fun z => by have := (nI_leI (b := 0) (by omega) (by omega)).mp z; omega), h.g6 (by omega), bind_e, hmb.2.2.1]
    cases hs : b.2.2.1 with
    | true =>
      have eo : opA S.2.2.2 = none := by rw [hb', opA_t hs]
      rw [if_pos rfl, if_neg (by decide)]
      unfold f_X9_comes_39 f_X9_comes_89
      rw [if_pos rfl, h.d2, bind_e, h.g2 hj, bind_e, b2]
      unfold putS
      rw [eo]
      dsimp only
      unfold putN
      by_cases c16 : 16 ≤ S.2.2.2.length
      · rw [if_pos c16, if_pos (i16.mpr (by omega))]
      · rw [if_neg c16, if_neg (fun z => c16 (by have := i16.mp z; omega)), if_pos rfl]
        have ec : clL S.2.2.2 = S.2.2.2 := by rw [hb', clL_t hs]
        rw [ec]
        exact comes_113 h hj (by omega) hbok hb0 ht
    | false =>
      obtain ⟨p, c, l, hr, -⟩ := ok_open hbm.1 hs
      have eo : opA S.2.2.2 = some (p, c) := by rw [hb', opA_f hs hr]
      obtain ⟨f1, f2, f3, f4, f5, f6, f7, f8, f9, f10, f11⟩ := rs_facts hbm.1 hr
      unfold hnd at hh
      rw [eo] at hh
      obtain ⟨hcs, h20⟩ := hh
      rw [if_neg (by decide : ¬ (false = true)), if_pos rfl]
      unfold f_X9_comes_39 f_X9_comes_89
      have hcl := (costA_le f5 t v).2
      rw [if_neg (by decide), takesBits_ok hcs f5 (by omega) ht v, bind_e, h.d0, bind_e, h.g0 hj, bind_e, b1, h20, show (14 : Int32) = nI 14 from rfl, show (7 : Int32) = nI 7 from rfl, show (8 : Int32) = nI 8 from rfl, nI_add, nI_add, pk_div (by omega) (by omega) (by omega), nI_add, nI_1]
      unfold putS
      rw [eo]
      dsimp only
      by_cases cf : fitA S.1 p c t v = true
      · have cf' := of_decide_eq_true cf
        rw [if_pos cf, if_neg (fun z => by have := (nI_ltI (by omega) (by omega)).mp z; omega), hb', List.getLast?_concat]
        dsimp only
        obtain ⟨m2, e1, e2, e3, e4, e5⟩ := writes_ok (K := K) (v := v) h (by omega) hbm.1 hs hr hmb hcs h20 (by omega) ht (fitA_le h200 cf)
        rw [e1, bind_e]
        refine ⟨m2, rfl, ⟨?_, ?_, ?_⟩, ?_, e5.mono (fun a k z => WW_WJ (by omega) z), fun z => zM_WW z e5 e2⟩
        · rw [e5.I (fun z => by unfold WW at z; omega)]; exact b1
        · rw [e5.I (fun z => by unfold WW at z; omega), b2]
          congr 1
          rw [hlen, List.length_append, List.dropLast_concat]; rfl
        · rw [List.dropLast_concat]
          exact smB_last hok0 (by rw [hb'] at b3; exact b3) e5 e2
        · obtain ⟨-, hrs⟩ := wr_ok hbm.1 hs hr (v := v) (by omega) ht (fitA_le h200 cf)
          unfold hnd
          rw [List.dropLast_concat, opA_f (b := wrB b p c t v) rfl hrs]
          exact ⟨e3, e4⟩
      · have cf' : ¬ (14 + (p + costA c t v + 7) / 8 + 1 ≤ S.1) := fun z => cf (decide_eq_true z)
        rw [if_neg cf, if_pos ((nI_ltI (by omega) (by omega)).mpr (by omega)), h.d2, bind_e, h.g2 hj, bind_e, b2]
        unfold putN
        by_cases c16 : 16 ≤ S.2.2.2.length
        · rw [if_pos c16, if_pos (i16.mpr (by omega))]
        · rw [if_neg c16, if_neg (fun z => c16 (by have := i16.mp z; omega)), if_neg (by decide)]
          obtain ⟨m2, e1, e2, e3, e4, e5⟩ := seals0_ok (K := K) h (by omega) hbm.1 hs hr hmb hcs
          rw [e1, bind_e]
          have ec : clL S.2.2.2 = bl0 ++ [clB b] := by rw [hb', clL_f hs]
          rw [ec]
          have hsm : smB m2 A j S.1 (bl0 ++ [clB b]) := by
            refine ⟨?_, ?_, ?_⟩
            · rw [e3.I (fun z => by unfold WW at z; omega)]; exact b1
            · rw [e3.I (fun z => by unfold WW at z; omega), b2]
              congr 1
              rw [hlen, List.length_append]; rfl
            · exact smB_last hok0 (by rw [hb'] at b3; exact b3) e3 e2
          have hok2 : ∀ x ∈ bl0 ++ [clB b], bkOk x := fun x hx => by
            rcases List.mem_append.mp hx with hx | hx
            · exact hok0 x hx
            · rw [List.mem_singleton.mp hx]; exact cl_ok hbm.1 hs
          obtain ⟨m3, r1, r2, r3, r4, r5⟩ := comes_113 (K := K) (v := v) (h.on e3) hj (by rw [List.length_append]; show bl0.length + 1 < 16; omega) hok2 hsm ht
          exact ⟨m3, r1, r2, r3, (e3.mono (fun a k z => WW_WJ (by omega) z)).trans r4, fun z => r5 (zM_WW z e3 e2)⟩
