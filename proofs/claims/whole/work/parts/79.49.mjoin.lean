/-! ===== the reference joins ===== -/
theorem ptsB_cl {b : Bk} (hb : bkOk b) (ho : b.2.2.1 = false) : ptsB (clB b) = ptsB b := by
  obtain ⟨p, c, l, hr, hop⟩ := ok_open hb ho
  obtain ⟨f1, f2, f3, f4, f5, f6, f7, f8, f9, f10, f11⟩ := rs_facts hb hr
  have h2 := cl_rs hop f11 f10
  unfold ptsB
  rw [hr, h2]
theorem blkP_app (a b : List Bk) : blkP (a ++ b) = blkP a ++ blkP b := by unfold blkP; exact List.flatMap_append
theorem blkP_one (b : Bk) : (blkP [b]).length = (ptsB b).length := by unfold blkP; simp
theorem clL_tot {bl : List Bk} (h : ∀ b ∈ bl, bkOk b) : (blkP (clL bl)).length = (blkP bl).length := by
  rcases last_cases bl with hb | ⟨bl0, b, hb⟩
  · rw [hb]; rfl
  · rw [hb]
    cases hs : b.2.2.1 with
    | true => rw [clL_t hs]
    | false => rw [clL_f hs, blkP_app, blkP_app, List.length_append, List.length_append, blkP_one, blkP_one, ptsB_cl (h b (by rw [hb]; simp)) hs]
theorem put_tot {S S' : Sr} (h : srOk S) {t : Nat} {v : Int64} (ht1 : S.2.1 < t) (ht : t ≤ 2000000000) (e : putS S t v = some S') : (blkP S'.2.2.2).length = (blkP S.2.2.2).length + 1 := by
  have hbok : ∀ b ∈ S.2.2.2, bkOk b := fun b hb => (h.2.2.2.2.2.2.2.2.1 b hb).1
  have hN : putN S t v = some S' → (blkP S'.2.2.2).length = (blkP S.2.2.2).length + 1 := fun e => by
    unfold putN at e
    split at e
    · cases e
    · cases e
      show (blkP (clL S.2.2.2 ++ [nwB t v])).length = _
      rw [blkP_app, List.length_append, clL_tot hbok, blkP_one]
      have : ptsB (nwB t v) = [(t, v, 0, 9, 9)] := by
        unfold ptsB
        rw [opn_rs rfl (nwB_opn ht v)]
      rw [this]; rfl
  unfold putS at e
  cases ho : opA S.2.2.2 with
  | none => rw [ho] at e; exact hN e
  | some pc =>
    obtain ⟨p, c⟩ := pc
    rw [ho] at e
    dsimp only at e
    by_cases cf : fitA S.1 p c t v = true
    · rw [if_pos cf] at e
      rcases last_cases S.2.2.2 with hb | ⟨bl0, b, hb⟩
      · rw [hb, opA_nil] at ho; cases ho
      · have hbm := h.2.2.2.2.2.2.2.2.1 b (by rw [hb]; simp)
        rw [hb, List.getLast?_concat, List.dropLast_concat] at e
        dsimp only at e
        cases e
        cases hs : b.2.2.1 with
        | true => rw [hb, opA_t hs] at ho; cases ho
        | false =>
          obtain ⟨p', c', l, hr, -⟩ := ok_open hbm.1 hs
          rw [hb, opA_f hs hr] at ho
          cases ho
          obtain ⟨f1, f2, f3, f4, f5, f6, f7, f8, f9, f10, f11⟩ := rs_facts hbm.1 hr
          obtain ⟨-, hrs⟩ := wr_ok hbm.1 hs hr (v := v) (by omega) ht (fitA_le h.2.1 cf)
          show (blkP (bl0 ++ [wrB b p c t v])).length = _
          rw [hb, blkP_app, blkP_app, List.length_append, List.length_append, blkP_one, blkP_one]
          have e1 : ptsB b = l := by unfold ptsB; rw [hr]
          have e2 : (ptsB (wrB b p c t v)).length = l.length + 1 := by
            unfold ptsB
            rw [hrs, List.length_append]; rfl
          rw [e1, e2]; omega
    · rw [if_neg cf] at e; exact hN e
theorem pack_tot : ∀ {l : List Pt} {S S' : Sr}, srOk S → srt l → (∀ q ∈ l, q.1 ≤ 2000000000) → (∀ q ∈ l, S.2.1 < (q.1 : Int)) → packL S l = some S' → (blkP S'.2.2.2).length = (blkP S.2.2.2).length + l.length
  | [], S, S', _, _, _, _, e => by cases e; rfl
  | q :: l, S, S', h, hs, h2, h3, e => by
    rw [packL_cons] at e
    have hp := List.pairwise_cons.mp hs
    cases hq : putS S q.1 q.2 with
    | none => rw [hq] at e; cases e
    | some S1 =>
      rw [hq] at e
      obtain ⟨p1, p2, p3, p4, p5⟩ := putS_ok h (h3 q (by simp)) (h2 q (by simp)) hq
      have h1 := put_tot h (h3 q (by simp)) (h2 q (by simp)) hq
      have := pack_tot p1 hp.2 (fun y hy => h2 y (by simp [hy])) (fun y hy => by rw [p2]; have := hp.1 y hy; omega) e
      rw [this, h1, List.length_cons]; omega
theorem pack_max {l : List Pt} {r : Nat} {S' : Sr} (hr1 : 24 ≤ r) (hr2 : r ≤ 200) (hs : srt l) (hle : ∀ q ∈ l, q.1 ≤ 2000000000) (h : packA r l = some S') : l.length ≤ 11792 := by
  have h1 := pack_tot (srOk_new hr1 hr2) hs hle (fun q _ => by show (-1 : Int) < q.1; omega) h
  have h2 := packL_ok (srOk_new hr1 hr2) hs hle (fun q _ => by show (-1 : Int) < q.1; omega) h
  have h16 := h2.1.2.2.2.2.2.2.2.1
  have h3 := blkP_len (bl := S'.2.2.2) (fun b hb => (h2.1.2.2.2.2.2.2.2.2.1 b hb).1)
  have h4 : (blkP ((r, (-1 : Int), ([] : List Pt), ([] : List Bk)) : Sr).2.2.2).length = 0 := rfl
  rw [h4] at h1
  omega
/-- both in one -/
def mgA (A C : List Pt) : List Pt := entP (zipP (A.length + C.length) A C)
theorem mg_spec {A C : List Pt} (hA : srt A) (hC : srt C) : srt (mgA A C) ∧ ∀ q, q ∈ mgA A C ↔ q ∈ A ∨ (q ∈ C ∧ ∀ z ∈ A, z.1 ≠ q.1) := zip_spec _ A C (Nat.le_refl _) hA hC
theorem mg_nil {A : List Pt} (hA : srt A) : mgA A [] = A := by
  obtain ⟨h1, h2⟩ := mg_spec hA (List.Pairwise.nil : srt [])
  refine srt_ext h1 hA (fun q => ?_)
  rw [h2]; simp
theorem mg_a {A C : List Pt} {a : Pt} (hA : srt (A ++ [a])) (hC : srt C) (h : ∀ c ∈ C, c.1 < a.1) : mgA (A ++ [a]) C = mgA A C ++ [a] := by
  have pA := List.pairwise_append.mp hA
  obtain ⟨h1, h2⟩ := mg_spec hA hC
  obtain ⟨h3, h4⟩ := mg_spec pA.1 hC
  refine srt_ext h1 (List.pairwise_append.mpr ⟨h3, List.pairwise_singleton _ _, fun x hx y hy => ?_⟩) (fun q => ?_)
  · rw [List.mem_singleton.mp hy]
    rcases (h4 x).mp hx with z | ⟨z, -⟩
    · exact pA.2.2 x z a (by simp)
    · exact h x z
  · rw [h2, List.mem_append, List.mem_append, h4, List.mem_singleton]
    constructor
    · rintro ((z | z) | ⟨z1, z2⟩)
      · exact Or.inl (Or.inl z)
      · exact Or.inr z
      · exact Or.inl (Or.inr ⟨z1, fun y hy => z2 y (List.mem_append_left _ hy)⟩)
    · rintro ((z | ⟨z1, z2⟩) | z)
      · exact Or.inl (Or.inl z)
      · refine Or.inr ⟨z1, fun y hy => ?_⟩
        rcases List.mem_append.mp hy with hy | hy
        · exact z2 y hy
        · rw [List.mem_singleton.mp hy]; have := h q z1; omega
      · exact Or.inl (Or.inr z)
theorem mg_e {A C : List Pt} {a c : Pt} (hA : srt (A ++ [a])) (hC : srt (C ++ [c])) (h : a.1 = c.1) : mgA (A ++ [a]) (C ++ [c]) = mgA A C ++ [a] := by
  have pA := List.pairwise_append.mp hA
  have pC := List.pairwise_append.mp hC
  obtain ⟨h1, h2⟩ := mg_spec hA hC
  obtain ⟨h3, h4⟩ := mg_spec pA.1 pC.1
  refine srt_ext h1 (List.pairwise_append.mpr ⟨h3, List.pairwise_singleton _ _, fun x hx y hy => ?_⟩) (fun q => ?_)
  · rw [List.mem_singleton.mp hy]
    rcases (h4 x).mp hx with z | ⟨z, -⟩
    · exact pA.2.2 x z a (by simp)
    · have := pC.2.2 x z c (by simp); omega
  · rw [h2, List.mem_append, List.mem_append, List.mem_append, h4, List.mem_singleton, List.mem_singleton]
    constructor
    · rintro ((z | z) | ⟨z1 | z1, z2⟩)
      · exact Or.inl (Or.inl z)
      · exact Or.inr z
      · exact Or.inl (Or.inr ⟨z1, fun y hy => z2 y (List.mem_append_left _ hy)⟩)
      · exact absurd (by rw [z1]; exact h) (z2 a (by simp))
    · rintro ((z | ⟨z1, z2⟩) | z)
      · exact Or.inl (Or.inl z)
      · refine Or.inr ⟨Or.inl z1, fun y hy => ?_⟩
        rcases List.mem_append.mp hy with hy | hy
        · exact z2 y hy
        · rw [List.mem_singleton.mp hy]; have := pC.2.2 q z1 c (by simp); omega
      · exact Or.inl (Or.inr z)
theorem mg_c {A C : List Pt} {c : Pt} (hA : srt A) (hC : srt (C ++ [c])) (h : ∀ a ∈ A, a.1 < c.1) : mgA A (C ++ [c]) = mgA A C ++ [c] := by
  have pC := List.pairwise_append.mp hC
  obtain ⟨h1, h2⟩ := mg_spec hA hC
  obtain ⟨h3, h4⟩ := mg_spec hA pC.1
  refine srt_ext h1 (List.pairwise_append.mpr ⟨h3, List.pairwise_singleton _ _, fun x hx y hy => ?_⟩) (fun q => ?_)
  · rw [List.mem_singleton.mp hy]
    rcases (h4 x).mp hx with z | ⟨z, -⟩
    · exact h x z
    · exact pC.2.2 x z c (by simp)
  · rw [h2, List.mem_append, List.mem_append, h4, List.mem_singleton]
    constructor
    · rintro (z | ⟨z1 | z1, z2⟩)
      · exact Or.inl (Or.inl z)
      · exact Or.inl (Or.inr ⟨z1, z2⟩)
      · exact Or.inr z1
    · rintro ((z | ⟨z1, z2⟩) | z)
      · exact Or.inl z
      · exact Or.inr ⟨Or.inl z1, z2⟩
      · exact Or.inr ⟨Or.inr z, fun y hy => by rw [z]; have := h y hy; omega⟩
theorem mg_perm {A C : List Pt} (hA : srt A) (hC : srt C) : (mgA A C).Perm (A ++ C.filter (fun q => (fdA A q.1).isNone)) := by
  obtain ⟨h1, h2⟩ := mg_spec hA hC
  have hnd : (A ++ C.filter (fun q => (fdA A q.1).isNone)).Pairwise (fun x y => x.1 ≠ y.1) := by
    refine List.pairwise_append.mpr ⟨srt_ne hA, (srt_ne hC).sublist List.filter_sublist, fun x hx y hy z => ?_⟩
    have := (List.mem_filter.mp hy).2
    rw [← z, fdA_some hA hx] at this
    cases this
  refine (List.perm_ext_iff_of_nodup (nodup_of (srt_ne h1)) (nodup_of hnd)).mpr (fun q => ?_)
  rw [h2, List.mem_append, List.mem_filter]
  constructor
  · rintro (z | ⟨z1, z2⟩)
    · exact Or.inl z
    · exact Or.inr ⟨z1, by rw [fdA_none z2]; rfl⟩
  · rintro (z | ⟨z1, z2⟩)
    · exact Or.inl z
    · refine Or.inr ⟨z1, fun y hy e => ?_⟩
      rw [← e, fdA_some hA hy] at z2
      cases z2
theorem mg_len {A C : List Pt} (hA : srt A) (hC : srt C) : (mgA A C).length = A.length + (C.filter (fun q => (fdA A q.1).isNone)).length := by
  rw [(mg_perm hA hC).length_eq, List.length_append]
theorem nI_p {a : Nat} (h : 1 ≤ a) : nI a + (-1 : Int32) = nI (a - 1) := nI_m (b := 1) h
def vaM (m : Mem) (A i : Nat) (x : Pt) : Prop := gJ m (A + 19) i = lN x.1 ∧ gJ m (A + 20) i = x.2
theorem take_last {l : List Pt} {k : Nat} {x : Pt} (hk : 1 ≤ k) (h : l[k - 1]? = some x) : l.take k = l.take (k - 1) ++ [x] := by
  obtain ⟨d, rfl⟩ : ∃ d, k = d + 1 := ⟨k - 1, by omega⟩
  rw [Nat.add_sub_cancel] at h ⊢
  rw [List.take_add_one, h]; rfl
theorem join_124 {K : Kn} {A : Nat} {x1 x2 x3 : Int32} {L R M : List Pt} (hL : srt L) (hR : srt R) (hL2 : ∀ q ∈ L, q.1 ≤ 2000000000) (hR2 : ∀ q ∈ R, q.1 ≤ 2000000000) (hn : M.length ≤ 12000) (hM : M = mgA L R) (hRl : R.length ≤ 12040) : ∀ (f : Nat) (m : Mem) (mine at_ k : Nat), mine + k < f → mine ≤ L.length → k ≤ R.length → at_ ≤ M.length → M.take at_ = mgA (L.take mine) (R.take k) → MS K m A → otM m A R → (∀ (i : Nat) (x : Pt), i < mine → L[i]? = some x → vaM m A i x) → (∀ (i : Nat) (x : Pt), at_ ≤ i → M[i]? = some x → vaM m A i x) → ∃ m' n' z, f_X9_join_124 K A x1 x2 x3 f m (nI mine) (nI M.length) (nI at_) (nI k) = f_X9_join_124 K A x1 x2 x3 (n' + 1) m' z (nI M.length) z (nI 0) ∧ MS K m' A ∧ KP A m m' ∧ ∀ (i : Nat) (x : Pt), M[i]? = some x → vaM m' A i x
  | 0, _, _, _, _, h, _, _, _, _, _, _, _, _ => absurd h (Nat.not_lt_zero _)
  | f + 1, m, mine, at_, k, hf, h1, h2, h3, h4, h, ho, ha, hb => by
    have sL : ∀ j, srt (L.take j) := fun j => srt_take hL j
    have sR : ∀ j, srt (R.take j) := fun j => srt_take hR j
    have hlen : (mgA (L.take mine) (R.take k)).length = at_ := by rw [← h4, List.length_take]; omega
    have hml := mg_len (sL mine) (sR k)
    rw [hlen, List.length_take, show min mine L.length = mine by omega] at hml
    by_cases ck : k = 0
    · subst ck
      rw [List.take_zero, mg_nil (sL mine)] at h4 hlen
      have e : at_ = mine := by rw [← hlen, List.length_take]; omega
      subst e
      refine ⟨m, f, nI at_, rfl, h, KP.refl A m, fun i x hx => ?_⟩
      by_cases ci : i < at_
      · refine ha i x ci ?_
        have : (M.take at_)[i]? = some x := by rw [List.getElem?_take_of_lt ci]; exact hx
        rw [h4, List.getElem?_take_of_lt ci] at this
        exact this
      · exact hb i x (by omega) hx
    · have unf : f_X9_join_124 K A x1 x2 x3 (f + 1) m (nI mine) (nI M.length) (nI at_) (nI k) = f_X9_join_124B K A x1 x2 x3 (f_X9_join_124 K A x1 x2 x3 f) m (nI mine) (nI M.length) (nI at_) (nI k) := rfl
      rw [unf]
      unfold f_X9_join_124B
      rw [if_neg (fun z => by have := (nI_leI (b := 0) (by omega) (by omega)).mp z; omega)]
      obtain ⟨c, hc⟩ := get_some (l := R) (i := k - 1) (by omega)
      have hc2 := hR2 c (List.mem_of_getElem? hc)
      obtain ⟨-, o2, o3, o4, o5⟩ := ot_at h ho hc
      have tR := take_last (by omega) hc
      have go : ∀ (mine' k' : Nat) (v : Pt) (m' : Mem), mine' + k' < f → mine' ≤ mine → k' ≤ k → mine' ≤ at_ - 1 → 1 ≤ at_ → mgA (L.take mine) (R.take k) = mgA (L.take mine') (R.take k') ++ [v] → gJ m' (A + 19) (at_ - 1) = lN v.1 → gJ m' (A + 20) (at_ - 1) = v.2 → fr (fun a j => (a = A + 19 ∨ a = A + 20) ∧ j = at_ - 1) m m' → ∃ m'' n' z, f_X9_join_124 K A x1 x2 x3 f m' (nI mine') (nI M.length) (nI (at_ - 1)) (nI k') = f_X9_join_124 K A x1 x2 x3 (n' + 1) m'' z (nI M.length) z (nI 0) ∧ MS K m'' A ∧ KP A m m'' ∧ ∀ (i : Nat) (x : Pt), M[i]? = some x → vaM m'' A i x := fun mine' k' v m' g1 g2 g3 g4 g5 g6 g7 g8 g9 => by
        have hl2 : (mgA (L.take mine') (R.take k')).length = at_ - 1 := by
          have := congrArg List.length g6
          rw [hlen, List.length_append] at this
          simp at this; omega
        have hMv : M[at_ - 1]? = some v := by
          have e1 : (M.take at_)[at_ - 1]? = some v := by
            rw [h4, g6, List.getElem?_append_right (by omega), hl2, Nat.sub_self]; rfl
          rw [List.getElem?_take_of_lt (by omega)] at e1
          exact e1
        obtain ⟨m'', n', z, r1, r2, r3, r4⟩ := join_124 (K := K) (x1 := x1) (x2 := x2) (x3 := x3) hL hR hL2 hR2 hn hM hRl f m' mine' (at_ - 1) k' (by omega) (by omega) (by omega) (by omega) (by
          have e1 : (M.take at_).take (at_ - 1) = M.take (at_ - 1) := by rw [List.take_take]; congr 1; omega
          rw [← e1, h4, g6, ← hl2, List.take_left]) (h.on g9) ⟨(g9.I (fun z => by omega)).trans ho.1, ho.2.1, fun i x hx => ⟨(g9.J (fun z => by omega)).trans (ho.2.2 i x hx).1, (g9.J (fun z => by omega)).trans (ho.2.2 i x hx).2⟩⟩ (fun i x hi hx => ⟨(g9.J (fun z => by omega)).trans (ha i x (by omega) hx).1, (g9.J (fun z => by omega)).trans (ha i x (by omega) hx).2⟩) (fun i x hi hx => by
          by_cases ci : i = at_ - 1
          · rw [ci, hMv] at hx
            cases hx
            rw [ci]; exact ⟨g7, g8⟩
          · exact ⟨(g9.J (fun z => by omega)).trans (hb i x (by omega) hx).1, (g9.J (fun z => by omega)).trans (hb i x (by omega) hx).2⟩)
        exact ⟨m'', n', z, r1, r2, (KP.of g9 (fun a k z => by omega)).trans r3, r4⟩
      have fromO : (∀ a ∈ L.take mine, a.1 < c.1) → ∃ m' n' z, f_X9_join_225 K A x1 x2 x3 (f_X9_join_124 K A x1 x2 x3 f) m (nI mine) (nI M.length) (nI at_) (nI k) = f_X9_join_124 K A x1 x2 x3 (n' + 1) m' z (nI M.length) z (nI 0) ∧ MS K m' A ∧ KP A m m' ∧ ∀ (i : Nat) (x : Pt), M[i]? = some x → vaM m' A i x := fun hlt => by
        have e6 : mgA (L.take mine) (R.take k) = mgA (L.take mine) (R.take (k - 1)) ++ [c] := by
          rw [tR]
          exact mg_c (sL mine) (by rw [← tR]; exact sR k) hlt
        have hm2 := mg_len (sL mine) (sR (k - 1))
        have hl3 := congrArg List.length e6
        rw [hlen, List.length_append, List.length_singleton] at hl3
        rw [List.length_take, show min mine L.length = mine by omega] at hm2
        unfold f_X9_join_225
        rw [nI_p (by omega), nI_p (by omega), bd_e, bd_e]
        have s1 : MS K (sJ m (A + 19) (at_ - 1) (lN c.1)) A := h.on (fr_sJ (W := fun _ _ => True) trivial)
        have f1 : fr (fun a j => a = A + 19 ∧ j = at_ - 1) m (sJ m (A + 19) (at_ - 1) (lN c.1)) := fr_sJ ⟨rfl, rfl⟩
        have e23 : gJ (sJ m (A + 19) (at_ - 1) (lN c.1)) (A + 23) (k - 1) = c.2 := (f1.J (fun z => by omega)).trans (ho.2.2 _ c hc).2
        rw [h.d30, bind_e, o2, bind_e, o4, bind_e, h.s30 (by omega), bind_e, s1.d31, bind_e, s1.d39, bind_e, s1.g39 (by omega), bind_e, e23, s1.s31 (by omega), bind_e]
        exact go mine (k - 1) c _ (by omega) (Nat.le_refl _) (by omega) (by omega) (by omega) e6 (by rw [gJ_sJ_n (Or.inl (by omega)), gJ_sJ_s]) gJ_sJ_s ((fr_sJ ⟨Or.inl rfl, rfl⟩).trans (fr_sJ ⟨Or.inr rfl, rfl⟩))
      by_cases c0 : mine = 0
      · rw [if_pos (by rw [c0]; decide)]
        exact fromO (fun a ha => by rw [c0, List.take_zero] at ha; simp at ha)
      · rw [if_neg (fun z => by have := (nI_leI (b := 0) (by omega) (by omega)).mp z; omega)]
        obtain ⟨a, ha'⟩ := get_some (l := L) (i := mine - 1) (by omega)
        have ha2 := hL2 a (List.mem_of_getElem? ha')
        obtain ⟨v1, v2⟩ := ha (mine - 1) a (by omega) ha'
        have tL := take_last (by omega) ha'
        have e30 : alJ K m (A + 19) (nI mine - (1 : Int32)) = some (lN a.1) := by rw [show (1 : Int32) = nI 1 from rfl, pk_sub (by omega), h.g30 (by omega), v1]
        have e38 : alJ K m (A + 22) (nI k - (1 : Int32)) = some (lN c.1) := by rw [show (1 : Int32) = nI 1 from rfl, pk_sub (by omega)]; exact o4
        simp only [h.d30, o2, bind_e, e30, e38]
        have i1 : lg_cmp (lN a.1) (lN c.1) < 0 ↔ a.1 < c.1 := by rw [← lZ_nat, ← lZ_nat, lgZ_lt (by omega) (by omega) (by omega) (by omega)]; omega
        have i2 : lg_cmp (lN a.1) (lN c.1) = 0 ↔ a.1 = c.1 := lgN (by omega) (by omega)
        have sLa : ∀ y ∈ L.take mine, y.1 ≤ a.1 := fun y hy => by
          rw [tL] at hy
          rcases List.mem_append.mp hy with hy | hy
          · have := (List.pairwise_append.mp (show srt (L.take (mine - 1) ++ [a]) by rw [← tL]; exact sL mine)).2.2 y hy a (by simp)
            omega
          · rw [List.mem_singleton.mp hy]; exact Nat.le_refl _
        by_cases d1 : a.1 < c.1
        · rw [if_pos (i1.mpr d1)]
          exact fromO (fun y hy => by have := sLa y hy; omega)
        · rw [if_neg (fun z => d1 (i1.mp z))]
          have at185 : ∀ (s1 k' : Nat), k' = k - s1 → s1 ≤ 1 → mgA (L.take mine) (R.take k) = mgA (L.take (mine - 1)) (R.take k') ++ [a] → ∃ m' n' z, f_X9_join_185 K A x1 x2 x3 (f_X9_join_124 K A x1 x2 x3 f) m (nI mine) (nI M.length) (nI at_) (nI k) (nI s1) = f_X9_join_124 K A x1 x2 x3 (n' + 1) m' z (nI M.length) z (nI 0) ∧ MS K m' A ∧ KP A m m' ∧ ∀ (i : Nat) (x : Pt), M[i]? = some x → vaM m' A i x := fun s1 k' hk' hs1 e6 => by
            have hm2 := mg_len (sL (mine - 1)) (sR k')
            have hl3 := congrArg List.length e6
            rw [hlen, List.length_append, List.length_singleton] at hl3
            rw [List.length_take, show min (mine - 1) L.length = mine - 1 by omega] at hm2
            unfold f_X9_join_185
            rw [pk_sub (by omega), nI_p (by omega), nI_p (by omega), bd_e, bd_e, bd_e, ← hk']
            have s2 : MS K (sJ m (A + 19) (at_ - 1) (lN a.1)) A := h.on (fr_sJ (W := fun _ _ => True) trivial)
            have f1 : fr (fun a j => a = A + 19 ∧ j = at_ - 1) m (sJ m (A + 19) (at_ - 1) (lN a.1)) := fr_sJ ⟨rfl, rfl⟩
            have e20 : gJ (sJ m (A + 19) (at_ - 1) (lN a.1)) (A + 20) (mine - 1) = a.2 := (f1.J (fun z => by omega)).trans v2
            rw [h.d30, bind_e, bind_e, h.g30 (by omega), bind_e, v1, h.s30 (by omega), bind_e, s2.d31, bind_e, bind_e, s2.g31 (by omega), bind_e, e20, s2.s31 (by omega), bind_e]
            exact go (mine - 1) k' a _ (by omega) (by omega) (by omega) (by omega) (by omega) e6 (by rw [gJ_sJ_n (Or.inl (by omega)), gJ_sJ_s]) gJ_sJ_s ((fr_sJ ⟨Or.inl rfl, rfl⟩).trans (fr_sJ ⟨Or.inr rfl, rfl⟩))
          by_cases d2 : a.1 = c.1
          · rw [if_pos (i2.mpr d2)]
            refine at185 1 (k - 1) rfl (by omega) ?_
            rw [tL, tR]
            exact mg_e (by rw [← tL]; exact sL mine) (by rw [← tR]; exact sR k) d2
          · rw [if_neg (fun z => d2 (i2.mp z))]
            refine at185 0 k rfl (by omega) ?_
            rw [tL]
            refine mg_a (by rw [← tL]; exact sL mine) (sR k) (fun y hy => ?_)
            rw [tR] at hy
            rcases List.mem_append.mp hy with hy | hy
            · have := (List.pairwise_append.mp (show srt (R.take (k - 1) ++ [c]) by rw [← tR]; exact sR k)).2.2 y hy c (by simp)
              omega
            · rw [List.mem_singleton.mp hy]; omega
theorem nJoin_none {s : St} {x y t : Int32} (hs : sl s x = none ∨ sl s y = none) : nJoin s x y t = (-2, s) := by
  unfold nJoin
  rcases hs with hs | hs
  · rw [hs]
  · rw [hs]; cases sl s x <;> rfl
theorem mjoin_ok {K : Kn} {m : Mem} {A : Nat} {s : St} (hok : stOk s) (h : RM K m A s) (x y t : Int32) : okM K m A (F_X9_join K m A x y t) (nJoin s x y t).1 (nJoin s x y t).2 := by
  unfold F_X9_join f_X9_join
  rcases areTwo_ok hok h x y with ⟨hs, hn⟩ | ⟨S, T, hs, ht, hn⟩
  · rw [hn, bind_e, if_pos rfl, nJoin_none hs]; exact okM.same h
  · unfold nJoin
    rw [hn, hs, ht, bind_e, if_neg (by decide), in_3b, bind_e]
    dsimp only
    by_cases ct : slt t = true
    · rw [if_pos ct, if_pos ct, if_neg (by decide)]
      obtain ⟨j, hj, rfl, hsj, hS, hm⟩ := h.at hok hs
      obtain ⟨i, hi, rfl, hsi, hT, hmT⟩ := h.at hok ht
      obtain ⟨to_, hto, rfl, htc⟩ := slt_nI ct
      have hr := hS.room
      obtain ⟨m1, r1, r2⟩ := hasBrokenM hj hS h.1 hm
      rw [r1, bind_e]
      by_cases cs : sndL S.2.2.2 = true
      · rw [if_pos cs, if_pos cs, if_pos rfl]
        have h1 := h.keep hok r2
        obtain ⟨m2, r3, r4⟩ := hasBrokenM hi hT h1.1 (hmT.keep hT hi r2)
        rw [r3, bind_e]
        by_cases cs2 : sndL T.2.2.2 = true
        · rw [if_pos cs2, if_pos cs2, if_pos rfl]
          have h2 := h1.keep hok r4
          obtain ⟨m3, g1, g2, ⟨g3, g4⟩, g5, g6, -, -⟩ := gathersTwoM hok h2 hs ht
          rw [g1, bind_e, bd_e, g4.1]
          have sS := (allP_spec hS).1
          have sT := (allP_spec hT).1
          have hlS := g4.2.1
          have hlT := g5.2.1
          have k3 := (r2.trans r4).trans g2
          have e62 := scanT 0 (allP T) (fun n (z : Nat) k => f_X9_join_62 K A (nI j) (nI i) (nI to_) n m3 (nI (allP S).length) (nI z) (nI k)) (fun z _ q => if (fdA (allP S) q.1).isNone = true then z + 1 else z) (fun _ => True) (fun z => if nI z ≤ (12000 : Int32) then f_X9_join_124 K A (nI j) (nI i) (nI to_) FU m3 (nI (allP S).length) (nI z) (nI z) (nI (allP T).length) else some ((-4 : Int32), m3)) (fun _ _ _ _ _ _ => trivial) (fun n z k q h1 hq _ => ?_) (fun n z k hk hk2 _ => ?_) FU 0 (allP S).length (Nat.le_refl _) (by omega) (by rw [FU_e]; omega) trivial
          · have e62 : f_X9_join_62 K A (nI j) (nI i) (nI to_) FU m3 (nI (allP S).length) (nI (allP S).length) (0 : Int32) = _ := e62
            rw [e62, List.drop_zero, foldI_filter (fun q : Pt => (fdA (allP S) q.1).isNone) (fun (z : Nat) _ => z + 1)]
            have efl : ∀ (l : List Pt) (z : Nat), l.foldl (fun (z : Nat) _ => z + 1) z = z + l.length := by
              intro l
              induction l with
              | nil => intro z; rfl
              | cons q l ih => intro z; show l.foldl _ (z + 1) = _; rw [ih, List.length_cons]; omega
            rw [efl, ← mg_len sS sT]
            have hzl : (mgA (allP S) (allP T)).length ≤ 24080 := by
              rw [mg_len sS sT]
              have := List.length_filter_le (fun q : Pt => (fdA (allP S) q.1).isNone) (allP T)
              omega
            have eZ : entP (zipA S T) = mgA (allP S) (allP T) := rfl
            obtain ⟨mS, mM⟩ := mg_spec sS sT
            have mL : ∀ q ∈ mgA (allP S) (allP T), q.1 ≤ 2000000000 := fun q hq => by
              rcases (mM q).mp hq with z | ⟨z, -⟩
              · exact allP_le hS q z
              · exact allP_le hT q z
            rw [eZ]
            have i12 : nI (mgA (allP S) (allP T)).length ≤ (12000 : Int32) ↔ (mgA (allP S) (allP T)).length ≤ 12000 := nI_leI (b := 12000) (by omega) (by omega)
            by_cases c12 : (mgA (allP S) (allP T)).length ≤ 12000
            · rw [if_pos (i12.mpr c12)]
              obtain ⟨m4, n4, z4, q1, q2, q3, q4⟩ := join_124 (K := K) (x1 := nI j) (x2 := nI i) (x3 := nI to_) (L := allP S) (R := allP T) (M := mgA (allP S) (allP T)) sS sT (allP_le hS) (allP_le hT) c12 rfl hlT FU m3 (allP S).length (mgA (allP S) (allP T)).length (allP T).length (by rw [FU_e]; omega) (Nat.le_refl _) (Nat.le_refl _) (Nat.le_refl _) (by rw [List.take_length, List.take_length, List.take_length]) g3 g5 (fun k x _ hx => ⟨(g4.2.2 k x hx).1, (g4.2.2 k x hx).2.1⟩) (fun k x hk hx => by rw [List.getElem?_eq_none hk] at hx; cases hx)
              rw [q1]
              show okM K m A (f_X9_join_124B K A (nI j) (nI i) (nI to_) (f_X9_join_124 K A (nI j) (nI i) (nI to_) n4) m4 z4 (nI (mgA (allP S) (allP T)).length) z4 (nI 0)) _ _
              unfold f_X9_join_124B
              have fM : fr (fun a k => a = A ∧ k = 33) m4 (sI m4 A 33 (nI (mgA (allP S) (allP T)).length)) := fr_sI ⟨rfl, rfl⟩
              have kAll := (k3.trans q3).trans (KP.of (A := A) fM (fun a k z => by omega))
              have h5 := h.keep hok kAll
              have hm5 := hm.keep hS hj kAll
              have al5 : alM (sI m4 A 33 (nI (mgA (allP S) (allP T)).length)) A (mgA (allP S) (allP T)) (fun _ _ => True) := ⟨gI_sI_s, by omega, fun k x hx => ⟨by rw [gJ_sI]; exact (q4 k x hx).1, by rw [gJ_sI]; exact (q4 k x hx).2, trivial⟩⟩
              rw [if_pos (by decide), bd_e, h5.1.d0, bind_e, h5.1.g0 (by omega), bind_e, hm5.1]
              obtain ⟨m6, p1, p2, p3, p4⟩ := lays_ok hok h5 al5 mS mL hr.1 hr.2 hto
              rw [p1, bind_e]
              exact okM.from kAll ⟨m6, rfl, p2, p3, p4⟩
            · rw [if_neg (fun z => c12 (i12.mp z))]
              have hnone : packA S.1 (mgA (allP S) (allP T)) = none := by
                cases hp : packA S.1 (mgA (allP S) (allP T)) with
                | none => rfl
                | some S' => have := pack_max hr.1 hr.2 mS mL hp; omega
              unfold nPack
              rw [hnone]
              exact okM.kp hok h k3
          · obtain ⟨a1, a2, a3, a4, a5⟩ := ot_at g3 g5 hq
            have hq2 := allP_le hT q (List.mem_of_getElem? hq)
            show f_X9_join_62B K A (nI j) (nI i) (nI to_) (f_X9_join_62 K A (nI j) (nI i) (nI to_) n) m3 (nI (allP S).length) (nI z) (nI k) = _
            unfold f_X9_join_62B f_X9_join_94
            rw [if_neg a1, a2, bind_e, a4, bind_e, l2i_lN]
            rcases place_fd g3 g4 sS (allP_le hS) hq2 with ⟨v, kk, p1, p2, p3, p4⟩ | ⟨p1, p2, p3⟩
            · rw [p4, bind_e, if_neg (nI_ne_m1 (by omega)), p1, bd_e, bd_e, add_0, nI_1, if_neg (show ¬ ((some v).isNone = true) by simp)]
            · rw [p3, bind_e, if_pos rfl, p1, bd_e, bd_e, nI_1, nI_1, if_pos (show (none : Option Pt).isNone = true from rfl)]
          · show f_X9_join_62B K A (nI j) (nI i) (nI to_) (f_X9_join_62 K A (nI j) (nI i) (nI to_) n) m3 (nI (allP S).length) (nI z) (nI k) = _
            unfold f_X9_join_62B
            rw [if_pos (ot_end g5 hk hk2), g5.1, bd_e]
        · rw [if_neg cs2, if_neg cs2]
          dsimp only
          rw [if_neg (by decide)]
          exact okM.kp hok h (r2.trans r4)
      · rw [if_neg cs, if_neg cs]
        dsimp only
        rw [if_neg (by decide)]
        exact okM.kp hok h r2
    · rw [if_neg ct, if_neg ct, if_pos rfl]; exact okM.same h
