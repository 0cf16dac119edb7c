/-! ===== the reference: late, seals, damage ===== -/
theorem late_77 {K : Kn} {m : Mem} {A j i N : Nat} {t : Nat} {v : Int64} (h : MS K m A) (hj : j < 4) (hi : i ≤ N) (hN : N ≤ 20) (h10 : gI m (A + 10) j = nI N) : (i = 20 → f_X9_late_77 K A (nI j) (nI t) v m (nI i) = some ((-4 : Int32), m)) ∧ (i < 20 → ∃ m', f_X9_late_77 K A (nI j) (nI t) v m (nI i) = some (nI (max N (i + 1)), m') ∧ gI m' (A + 11) (20 * j + i) = nI t ∧ gJ m' (A + 12) (20 * j + i) = v ∧ gI m' (A + 10) j = nI (max N (i + 1)) ∧ fr (fun a k => (a = A + 10 ∧ k = j) ∨ ((a = A + 11 ∨ a = A + 12) ∧ k = 20 * j + i)) m m') := by
  unfold f_X9_late_77
  have i20 : nI i = (20 : Int32) ↔ i = 20 := nI_eq (b := 20) (by omega) (by omega)
  refine ⟨fun z => by rw [if_pos (i20.mpr z)], fun z => ?_⟩
  have s1 : MS K (sI m (A + 11) (20 * j + i) (nI t)) A := h.on (fr_sI (W := fun _ _ => True) trivial)
  have s2 : MS K (sJ (sI m (A + 11) (20 * j + i) (nI t)) (A + 12) (20 * j + i) v) A := s1.on (fr_sJ (W := fun _ _ => True) trivial)
  rw [if_neg (fun y => by have := i20.mp y; omega), show (20 : Int32) = nI 20 from rfl, nI_mul, nI_add, h.d10, bind_e, h.s10 (by omega), bind_e, s1.d11, bind_e, s1.s11 (by omega), bind_e, s2.d9, bind_e, bind_e, s2.g9 (by omega), bind_e, gI_sJ, gI_sI_n (Or.inl (by omega)), h10, nI_1, max_ok, bind_e]
  have em : max32 (nI N) (nI (i + 1)) = nI (max N (i + 1)) := by
    unfold max32
    by_cases c : N < i + 1
    · rw [if_pos ((nI_ltI (by omega) (by omega)).mpr c), show max N (i + 1) = i + 1 by omega]
    · rw [if_neg (fun y => c ((nI_ltI (by omega) (by omega)).mp y)), show max N (i + 1) = N by omega]
  rw [em, s2.s9 (by omega), bind_e]
  have s3 : MS K (sI (sJ (sI m (A + 11) (20 * j + i) (nI t)) (A + 12) (20 * j + i) v) (A + 10) j (nI (max N (i + 1)))) A := s2.on (fr_sI (W := fun _ _ => True) trivial)
  rw [s3.d9, bind_e, s3.g9 (by omega), bind_e, gI_sI_s]
  refine ⟨_, rfl, ?_, ?_, gI_sI_s, ?_⟩
  · rw [gI_sI_n (Or.inl (by omega)), gI_sJ, gI_sI_s]
  · rw [gJ_sI, gJ_sJ_s]
  · exact ((fr_sI (Or.inr ⟨Or.inl rfl, rfl⟩)).trans (fr_sJ (Or.inr ⟨Or.inr rfl, rfl⟩))).trans (fr_sI (Or.inl ⟨rfl, rfl⟩))
/-- where a stamp lies among late points, in their own order -/
def fnd (t : Nat) : List Pt → Nat
  | [] => 0
  | q :: l => if q.1 = t then 0 else fnd t l + 1
theorem fnd_le (t : Nat) : ∀ l, fnd t l ≤ l.length
  | [] => Nat.le_refl _
  | q :: l => by
    unfold fnd
    split
    · exact Nat.zero_le _
    · have := fnd_le t l; rw [List.length_cons]; omega
theorem fnd_at (t : Nat) : ∀ (l : List Pt), (fnd t l < l.length → ∃ x, l[fnd t l]? = some x ∧ x.1 = t) ∧ (∀ i x, i < fnd t l → l[i]? = some x → x.1 ≠ t)
  | [] => ⟨fun h => absurd h (Nat.not_lt_zero _), fun i x hi => absurd hi (Nat.not_lt_zero _)⟩
  | q :: l => by
    obtain ⟨h1, h2⟩ := fnd_at t l
    unfold fnd
    by_cases c : q.1 = t
    · rw [if_pos c]
      exact ⟨fun _ => ⟨q, rfl, c⟩, fun i x hi => absurd hi (Nat.not_lt_zero _)⟩
    · rw [if_neg c]
      refine ⟨fun h => ?_, fun i x hi hx => ?_⟩
      · obtain ⟨x, hx, ht⟩ := h1 (by rw [List.length_cons] at h; omega)
        exact ⟨x, hx, ht⟩
      · cases i with
        | zero => cases hx; exact c
        | succ i => exact h2 i x (by omega) hx
theorem late_44 {K : Kn} {m : Mem} {A j t : Nat} {v : Int64} {L : List Pt} (h : MS K m A) (hj : j < 4) (hL : L.length ≤ 20) (hL2 : ∀ q ∈ L, q.1 ≤ 2000000000) (ht : t ≤ 2000000000) (h10 : gI m (A + 10) j = nI L.length) (h11 : ∀ (k : Nat) (x : Pt), L[k]? = some x → gI m (A + 11) (20 * j + k) = nI x.1) : ∀ (f i : Nat), i ≤ fnd t L → fnd t L - i < f → f_X9_late_44 K A (nI j) (nI t) v f m (nI i) = f_X9_late_77 K A (nI j) (nI t) v m (nI (fnd t L))
  | 0, _, _, h => absurd h (Nat.not_lt_zero _)
  | f + 1, i, hi, hf => by
    have hfl := fnd_le t L
    obtain ⟨a1, a2⟩ := fnd_at t L
    have unf : f_X9_late_44 K A (nI j) (nI t) v (f + 1) m (nI i) = f_X9_late_44B K A (nI j) (nI t) v (f_X9_late_44 K A (nI j) (nI t) v f) m (nI i) := rfl
    rw [unf]
    unfold f_X9_late_44B
    rw [h.d9, bind_e, h.g9 (by omega), bind_e, h10]
    by_cases c : L.length ≤ i
    · rw [if_pos ((nI_leI (by omega) (by omega)).mpr c), show i = fnd t L by omega]
    · rw [if_neg (fun z => c ((nI_leI (by omega) (by omega)).mp z)), h.d10, bind_e, show (20 : Int32) = nI 20 from rfl, nI_mul, nI_add, h.g10 (by omega), bind_e]
      obtain ⟨x, hx⟩ := get_some (l := L) (i := i) (by omega)
      have hx2 := hL2 x (List.mem_of_getElem? hx)
      rw [h11 i x hx]
      have ie : nI x.1 = nI t ↔ x.1 = t := nI_eq (by omega) (by omega)
      by_cases d : i = fnd t L
      · obtain ⟨y, hy, hyt⟩ := a1 (by omega)
        rw [d] at hx
        rw [hx] at hy
        cases hy
        rw [if_pos (ie.mpr hyt), d]
      · rw [if_neg (fun z => a2 i x (by omega) hx (ie.mp z)), bd_e, nI_1]
        exact late_44 h hj hL hL2 ht h10 h11 f (i + 1) (by clear a1 a2; omega) (by clear a1 a2; omega)
theorem nodup_of {l : List Pt} (h : l.Pairwise (fun x y => x.1 ≠ y.1)) : l.Nodup := List.Pairwise.imp (fun h e => h (by rw [e])) h
theorem mlate_ok {K : Kn} {m : Mem} {A : Nat} {s : St} (hok : stOk s) (h : RM K m A s) (x t : Int32) (v : Int64) : okM K m A (F_X9_late K m A x t v) (nLate s x t v).1 (nLate s x t v).2 := by
  unfold F_X9_late f_X9_late nLate
  rcases isSeries_ok hok h x with ⟨hs, hn⟩ | ⟨S, hs, hn⟩
  · rw [hn, hs, bind_e, if_pos rfl]; exact okM.same h
  · rw [hn, hs, bind_e, if_neg (by decide), isStampM, bind_e]
    dsimp only
    by_cases ct : stm t = true
    · rw [if_pos ct, if_pos ct, if_neg (by decide)]
      obtain ⟨T, hT, rfl, hti⟩ := stm_nI ct
      obtain ⟨j, hj, rfl, hsj, hS, hm⟩ := h.at hok hs
      have h3 := hS.2.2.1
      have h4 := hS.2.2.2.1
      simp only [h.1.d1, bind_e, h.1.g1 (show j < 5 by omega), hm.2.1]
      rw [hti, nI_clamp (by omega), nI_clamp (by omega)]
      have i1 : nI T ≤ iZ S.2.1 ↔ (T : Int) ≤ S.2.1 := by rw [fa_le, iZ_toInt (by omega) (by omega), nI_toInt (by omega)]
      by_cases ca : (T : Int) ≤ S.2.1
      · rw [if_neg (fun z => by have := (iZ_m1 h3 h4).mp z; omega), if_pos (i1.mpr ca), if_pos ca]
        have hm0 := hm
        obtain ⟨m1', m2', m3', m4', L, l1, l2, l3⟩ := hm
        have hlen := l1.length_eq
        have hl20 := hS.2.2.2.2.1
        have hls := hS.2.2.2.2.2.1
        have hLd : L.Pairwise (fun x y => x.1 ≠ y.1) := (l1.pairwise_iff (fun h => Ne.symm h)).mpr (srt_ne hls)
        have hL2 : ∀ q ∈ L, q.1 ≤ 2000000000 := fun q hq => late_lt hS q (l1.mem_iff.mp hq)
        have hfl := fnd_le T L
        obtain ⟨a1, a2⟩ := fnd_at T L
        have e44 := late_44 (K := K) (v := v) (t := T) h.1 hj (by omega) hL2 hT l2 (fun k x hx => (l3 k x hx).1) FU 0 (Nat.zero_le _) (by rw [FU_e]; omega)
        rw [show (0 : Int32) = nI 0 from rfl, e44]
        obtain ⟨c1, c2⟩ := late_77 (K := K) (t := T) (v := v) h.1 hj hfl (by omega) l2
        have hhas := hasA_mem hls T
        have hmem : hasA S.2.2.1 T = true ↔ fnd T L < L.length := by
          rw [hhas]
          constructor
          · rintro ⟨q, hq, hqt⟩
            obtain ⟨k, hk⟩ := List.getElem?_of_mem (l1.mem_iff.mpr hq)
            have hkl := (List.getElem?_eq_some_iff.mp hk).1
            rcases Nat.lt_or_ge k (fnd T L) with g | g
            · exact absurd hqt (a2 k q g hk)
            · omega
          · intro z
            obtain ⟨y, hy, hyt⟩ := a1 z
            exact ⟨y, l1.mem_iff.mp (List.mem_of_getElem? hy), hyt⟩
        by_cases c20 : fnd T L = 20
        · have c20' : fnd T L = L.length := by omega
          rw [c1 c20, if_neg (fun z => z.elim (fun z => by have := hmem.mp z; omega) (fun z => by omega))]
          exact okM.same h
        · obtain ⟨m', e1, e2, e3, e4, e5⟩ := c2 (by omega)
          have hcond : hasA S.2.2.1 T = true ∨ S.2.2.1.length < 20 := by
            by_cases g : fnd T L < L.length
            · exact Or.inl (hmem.mpr g)
            · right; omega
          rw [e1, if_pos hcond]
          obtain ⟨L', hL', hL'l, hL'g⟩ : ∃ L' : List Pt, L'.Perm (insA S.2.2.1 T v) ∧ L'.length = max L.length (fnd T L + 1) ∧ ∀ (i : Nat) (x : Pt), L'[i]? = some x → (i = fnd T L ∧ x = (T, v)) ∨ (i ≠ fnd T L ∧ L[i]? = some x) := by
            obtain ⟨g1, g2⟩ := insA_spec hls T v
            by_cases g : fnd T L < L.length
            · refine ⟨L.set (fnd T L) (T, v), ?_, by rw [List.length_set]; omega, fun i x hx => ?_⟩
              · have hd : (L.set (fnd T L) (T, v)).Pairwise (fun x y => x.1 ≠ y.1) := by
                  obtain ⟨y, hy, hyt⟩ := a1 g
                  have hmap : (L.set (fnd T L) (T, v)).map Prod.fst = L.map Prod.fst := by
                    apply List.ext_getElem?
                    intro k
                    rw [List.getElem?_map, List.getElem?_map, List.getElem?_set]
                    by_cases ck : fnd T L = k
                    · rw [if_pos ck, if_pos g, ← ck, hy]
                      show some T = some y.1
                      rw [hyt]
                    · rw [if_neg ck]
                  have h1 : (L.map Prod.fst).Pairwise (fun a b => a ≠ b) := List.pairwise_map.mpr hLd
                  rw [← hmap] at h1
                  exact List.pairwise_map.mp h1
                refine (List.perm_ext_iff_of_nodup (nodup_of hd) (nodup_of (srt_ne g1))).mpr (fun q => ?_)
                rw [g2]
                constructor
                · intro hq
                  obtain ⟨k, hk⟩ := List.getElem?_of_mem hq
                  rw [List.getElem?_set] at hk
                  by_cases ck : fnd T L = k
                  · rw [if_pos ck, if_pos g] at hk
                    cases hk
                    exact Or.inl rfl
                  · rw [if_neg ck] at hk
                    refine Or.inr ⟨l1.mem_iff.mp (List.mem_of_getElem? hk), fun z => ?_⟩
                    obtain ⟨y, hy, hyt⟩ := a1 g
                    have i1 := List.getElem?_eq_some_iff.mp hk
                    have i2 := List.getElem?_eq_some_iff.mp hy
                    rcases Nat.lt_or_ge k (fnd T L) with o | o
                    · exact a2 k q o hk z
                    · have := (List.pairwise_iff_getElem.mp hLd) (fnd T L) k i2.1 i1.1 (by omega)
                      rw [i1.2, i2.2] at this
                      exact this (by rw [hyt, z])
                · rintro (rfl | ⟨z1, z2⟩)
                  · exact List.mem_of_getElem? (i := fnd T L) (by rw [List.getElem?_set, if_pos rfl, if_pos g])
                  · obtain ⟨k, hk⟩ := List.getElem?_of_mem (l1.mem_iff.mpr z1)
                    refine List.mem_of_getElem? (i := k) ?_
                    rw [List.getElem?_set, if_neg (fun z => by
                      obtain ⟨y, hy, hyt⟩ := a1 g
                      rw [z, hk] at hy
                      cases hy
                      exact z2 hyt)]
                    exact hk
              · rw [List.getElem?_set] at hx
                by_cases ck : fnd T L = i
                · rw [if_pos ck, if_pos g] at hx
                  cases hx
                  exact Or.inl ⟨ck.symm, rfl⟩
                · rw [if_neg ck] at hx
                  exact Or.inr ⟨fun z => ck z.symm, hx⟩
            · have ge : fnd T L = L.length := by omega
              refine ⟨L ++ [(T, v)], ?_, by rw [List.length_append]; show L.length + 1 = _; omega, fun i x hx => ?_⟩
              · have hnot : ∀ q ∈ L, q.1 ≠ T := fun q hq z => by
                  obtain ⟨k, hk⟩ := List.getElem?_of_mem hq
                  have hkl := (List.getElem?_eq_some_iff.mp hk).1
                  exact a2 k q (by omega) hk z
                have hd : (L ++ [(T, v)]).Pairwise (fun x y => x.1 ≠ y.1) := List.pairwise_append.mpr ⟨hLd, List.pairwise_singleton _ _, fun x hx y hy => by rw [List.mem_singleton.mp hy]; exact hnot x hx⟩
                refine (List.perm_ext_iff_of_nodup (nodup_of hd) (nodup_of (srt_ne g1))).mpr (fun q => ?_)
                rw [g2, List.mem_append, List.mem_singleton]
                constructor
                · rintro (z | z)
                  · exact Or.inr ⟨l1.mem_iff.mp z, hnot q z⟩
                  · exact Or.inl z
                · rintro (z | ⟨z1, z2⟩)
                  · exact Or.inr z
                  · exact Or.inl (l1.mem_iff.mpr z1)
              · by_cases ci : i < L.length
                · rw [List.getElem?_append_left ci] at hx
                  exact Or.inr ⟨by omega, hx⟩
                · have hi := (List.getElem?_eq_some_iff.mp hx).1
                  rw [List.length_append] at hi
                  have hi : i = L.length := by simp at hi; omega
                  rw [hi, List.getElem?_append_right (Nat.le_refl _), Nat.sub_self] at hx
                  cases hx
                  exact Or.inl ⟨by omega, rfl⟩
          have eN : max L.length (fnd T L + 1) = (insA S.2.2.1 T v).length := by rw [← hL'l, hL'.length_eq]
          rw [eN] at e4 ⊢
          have uM : UP A j m m' := UP.of e5 (fun a k z => ⟨by unfold WU; omega, by omega⟩) (fun z => z.on e5 (fun k z => by omega))
          refine okM.up hok h hj uM ⟨(e5.I (fun z => by omega)).trans m1', (e5.I (fun z => by omega)).trans m2', (e5.I (fun z => by omega)).trans m3', fun k b hb => (m4' k b hb).on e5 (fun i _ z => by omega) (fun a _ _ z => by omega), L', hL', by rw [e4, hL'.length_eq], fun i y hy => ?_⟩
          rcases hL'g i y hy with ⟨z1, z2⟩ | ⟨z1, z2⟩
          · rw [z1, z2]; exact ⟨e2, e3⟩
          · exact ⟨(e5.I (fun z => by omega)).trans (l3 i y z2).1, (e5.J (fun z => by omega)).trans (l3 i y z2).2⟩
      · have i2 : ¬ nI T ≤ iZ S.2.1 := fun z => ca (i1.mp z)
        rw [if_neg i2, if_neg ca]
        have : (if iZ S.2.1 = (-1 : Int32) then some ((-5 : Int32), m) else some ((-5 : Int32), m)) = some (-5, m) := by split <;> rfl
        rw [this]; exact okM.same h
    · rw [if_neg ct, if_neg ct, if_pos rfl]; exact okM.same h
theorem mseals_ok {K : Kn} {m : Mem} {A : Nat} {s : St} (hok : stOk s) (h : RM K m A s) (x : Int32) : okM K m A (F_X9_seals K m A x) (nSeals s x).1 (nSeals s x).2 := by
  unfold F_X9_seals f_X9_seals nSeals
  rcases isSeries_ok hok h x with ⟨hs, hn⟩ | ⟨S, hs, hn⟩
  · rw [hn, hs, bind_e, if_pos rfl]; exact okM.same h
  · rw [hn, hs, bind_e, if_neg (by decide)]
    obtain ⟨j, hj, rfl, hsj, hS, hm⟩ := h.at hok hs
    have h16 := hS.2.2.2.2.2.2.2.1
    dsimp only
    simp only [h.1.d2, h.1.d6, bind_e, h.1.g2 (show j < 5 by omega), hm.2.2.1, bd_e]
    rcases last_cases S.2.2.2 with hb | ⟨bl0, b, hb⟩
    · rw [hb, if_pos (by decide)]; exact okM.same h
    · have hlen : S.2.2.2.length = bl0.length + 1 := by rw [hb]; simp
      have hget : S.2.2.2[bl0.length]? = some b := by rw [hb]; exact get_last bl0 b
      have hbm := hS.2.2.2.2.2.2.2.2.1 b (by rw [hb]; simp)
      have hmb := hm.2.2.2.1 _ b hget
      have idx : (16 : Int32) * nI j + nI S.2.2.2.length - (1 : Int32) = nI (16 * j + bl0.length) := by
        rw [hlen, show (16 : Int32) = nI 16 from rfl, show (1 : Int32) = nI 1 from rfl, nI_mul, nI_add, pk_sub (by omega), show 16 * j + (bl0.length + 1) - 1 = 16 * j + bl0.length by omega]
      have hgl : S.2.2.2.getLast? = some b := by rw [hb, List.getLast?_concat]
      rw [idx, hgl, if_neg (fun z => by have := (nI_zero (by omega)).mp z; omega), h.1.g6 (by omega), bind_e, hmb.2.2.1, nI_clamp (by omega)]
      dsimp only
      cases hse : b.2.2.1 with
      | true => rw [if_pos rfl, if_neg (by decide), if_pos rfl]; exact okM.same h
      | false =>
        rw [if_neg (by decide : ¬ (false = true)), if_pos rfl, if_neg (by decide : ¬ (false = true))]
        obtain ⟨p, c, l, hr, -⟩ := ok_open hbm.1 hse
        have ho := opens_ok h.1 hj hS hm
        obtain ⟨m1, r1, r2, r3, r4⟩ := isBroken_ok h.1 (q := 16 * j + bl0.length) (by omega) hbm.1 hmb
        have e0 : F_X9_reads K m A (nI (16 * j + bl0.length)) = some m1 := by
          unfold F_X9_isBroken f_X9_isBroken at r1
          cases hx : F_X9_reads K m A (nI (16 * j + bl0.length)) with
          | none => rw [hx] at r1; cases r1
          | some m2 =>
            rw [hx, bind_e] at r1
            split at r1 <;> rw [(Prod.mk.inj (Option.some.inj r1)).2]
        rw [e0, bind_e]
        rw [hr] at r4
        have hm1 := hm.keep hS hj r2
        have hmb1 := hm1.2.2.2.1 _ b hget
        have s1 := h.1.on r3
        obtain ⟨m2, q1, q2, q3, q4, q5⟩ := seals0_ok (K := K) s1 (by omega) hbm.1 hse hr hmb1 r4.2.2.2.1
        have s2 := s1.on q3
        rw [q1, bind_e, s2.d4, bind_e, s2.g4 (by omega), bind_e, q2.2.1]
        have ec : clL S.2.2.2 = bl0 ++ [clB b] := by rw [hb, clL_f hse]
        rw [ec]
        have hok0 : ∀ x ∈ bl0, bkOk x := fun x hx => (hS.2.2.2.2.2.2.2.2.1 x (by rw [hb]; simp [hx])).1
        have uM : UP A j m1 m2 := WJ_UP (q3.mono (fun a k z => WW_WJ (by omega) z)) (fun z => zM_WW z q3 q2)
        obtain ⟨a1, a2, a3, a4, L, l1, l2, l3⟩ := hm1
        refine okM.up hok h hj (r2.up.trans uM) ⟨(q3.I (fun z => by unfold WW at z; omega)).trans a1, (q3.I (fun z => by unfold WW at z; omega)).trans a2, ?_, ?_, L, l1, (q3.I (fun z => by unfold WW at z; omega)).trans l2, fun i y hy => ⟨(q3.I (fun z => by unfold WW at z; omega)).trans (l3 i y hy).1, (q3.J (fun z => by unfold WW at z; omega)).trans (l3 i y hy).2⟩⟩
        · rw [q3.I (fun z => by unfold WW at z; omega), a3]
          congr 1
          show S.2.2.2.length = (bl0 ++ [clB b]).length
          rw [hlen, List.length_append]; rfl
        · exact smB_last hok0 (by rw [hb] at a4; exact a4) q3 q2
theorem mdamage_ok {K : Kn} {m : Mem} {A : Nat} {s : St} (hok : stOk s) (h : RM K m A s) (x k i t : Int32) : okM K m A (F_X9_damage K m A x k i t) (nDamage s x k i t).1 (nDamage s x k i t).2 := by
  unfold F_X9_damage f_X9_damage
  rcases isBlock_ok hok h x k with ⟨hb, hn⟩ | ⟨S, j, n, b, hs, hj, rfl, rfl, hnl, hbl, hb, hS, hbok, hm, hmb, h64, hn⟩
  · rw [hn, bind_e, if_pos rfl]
    have : nDamage s x k i t = (-2, s) := by
      unfold nDamage
      unfold bko at hb
      cases hs : sl s x with
      | none => rfl
      | some S =>
        rw [hs] at hb
        dsimp only at hb ⊢
        by_cases c : k < 0
        · rw [if_pos c]
        · rw [if_neg c] at hb ⊢
          rw [hb]
    rw [this]; exact okM.same h
  · have h14 := hbok.2.1
    have h200 := hbok.2.2.1
    have hn16 := hS.2.2.2.2.2.2.2.1
    rw [hn, bind_e, if_neg (by decide)]
    unfold nDamage
    rw [hs]
    dsimp only
    rw [if_neg (fun z => by have := (nI_ltI (b := 0) (by omega) (by omega)).mp z; omega), nI_clamp (by omega), hbl]
    dsimp only
    rw [show (16 : Int32) = nI 16 from rfl, nI_mul, nI_add, h.1.d4, bind_e, h.1.g4 (by omega), bind_e, hmb.2.1, show (1 : Int32) = nI 1 from rfl, pk_sub (by omega), nI_long (by omega)]
    rcases in_w 255 (by decide) t with ⟨ht, d⟩ | ⟨ht, d1, d2⟩
    · have ht : F_X9_in t.toInt64 (0 : Int64) (255 : Int64) = some 0 := ht
      have d' : t < 0 ∨ ¬ t ≤ (255 : Int32) := d.elim Or.inl (fun z => Or.inr z.2)
      rw [ht, bind_e, if_pos rfl]
      have : (if i < 0 then ((-2 : Int32), s) else if nI b.2.1 ≤ i then (-2, s) else if t < 0 then (-2, s) else if t ≤ (255 : Int32) then (if b.2.2.1 = true then (nI (b.1 i.toNatClampNeg), upS s (nI j).toNatClampNeg (S.1, S.2.1, S.2.2.1, S.2.2.2.set n (putB b i.toNatClampNeg t.toNatClampNeg))) else (-5, s)) else (-2, s)) = (-2, s) := by
        split
        · rfl
        split
        · rfl
        rcases d' with d' | d'
        · rw [if_pos d']
        · by_cases z : t < 0
          · rw [if_pos z]
          · rw [if_neg z, if_neg d']
      rw [this]; exact okM.same h
    · have ht : F_X9_in t.toInt64 (0 : Int64) (255 : Int64) = some 1 := ht
      have d2 : t ≤ (255 : Int32) := d2
      rw [ht, bind_e, if_neg (by decide : ¬ ((1 : Int32) = 0)), if_neg d1, if_pos d2]
      rcases in_w (b.2.1 - 1) (by omega) i with ⟨hi, c1 | ⟨c1, c2⟩⟩ | ⟨hi, c1, c2⟩
      · rw [hi, bind_e, if_pos rfl, if_pos c1]; exact okM.same h
      · obtain ⟨a, ha, rfl, hcl⟩ := idx_nI c1
        rw [hi, bind_e, if_pos rfl, if_neg c1, if_pos ((nI_leI (by omega) ha).mpr (by
          rcases Nat.lt_or_ge a b.2.1 with g | g
          · exact absurd ((nI_leI ha (by omega)).mpr (by omega)) c2
          · exact g))]; exact okM.same h
      · obtain ⟨a, ha, rfl, hcl⟩ := idx_nI c1
        obtain ⟨w, hw, rfl, hwc⟩ := idx_nI d1
        have c3 : a ≤ b.2.1 - 1 := (nI_leI ha (by omega)).mp c2
        have w3 : w ≤ 255 := (nI_leI (b := 255) hw (by omega)).mp d2
        rw [hi, bind_e, if_neg (by decide : ¬ ((1 : Int32) = 0)), if_neg c1, if_neg (fun z => by have := (nI_leI (by omega) ha).mp z; omega), bd_e, h.1.d6, bind_e, h.1.g6 (by omega), bind_e, hmb.2.2.1, hcl, hwc, nI_clamp (by omega)]
        cases hse : b.2.2.1 with
        | false => rw [if_neg (by decide : ¬ (false = true)), if_pos rfl, if_neg (by decide : ¬ (false = true))]; exact okM.same h
        | true =>
          rw [if_pos rfl, if_neg (by decide : ¬ ((1 : Int32) = 0)), if_pos rfl, byteAt_ok h.1 (by omega) (by omega), bind_e, hmb.1 a (by omega), h.1.d3, bind_e, show (200 : Int32) = nI 200 from rfl, nI_mul, nI_add, h.1.s3 (by omega), bind_e]
          have fM : fr (fun x y => x = A + 4 ∧ y = 200 * (16 * j + n) + a) m (sI m (A + 4) (200 * (16 * j + n) + a) (nI w)) := fr_sI ⟨rfl, rfl⟩
          have uM : UP A j m (sI m (A + 4) (200 * (16 * j + n) + a) (nI w)) := UP.of fM (fun a k z => ⟨by unfold WU; omega, by omega⟩) (fun z => z.on fM (fun k z => by omega))
          obtain ⟨a1, a2, a3, a4, L, l1, l2, l3⟩ := hm
          refine okM.up hok h hj uM ⟨(fM.I (fun z => by omega)).trans a1, (fM.I (fun z => by omega)).trans a2, ?_, fun k b' hb' => ?_, L, l1, (fM.I (fun z => by omega)).trans l2, fun i y hy => ⟨(fM.I (fun z => by omega)).trans (l3 i y hy).1, (fM.J (fun z => by omega)).trans (l3 i y hy).2⟩⟩
          · rw [fM.I (fun z => by omega), a3]
            show nI S.2.2.2.length = nI (S.2.2.2.set n _).length
            rw [List.length_set]
          · have hb' : (S.2.2.2.set n (putB b a w))[k]? = some b' := hb'
            rw [List.getElem?_set] at hb'
            by_cases ck : n = k
            · rw [if_pos ck, if_pos hnl] at hb'
              cases hb'
              rw [← ck]
              obtain ⟨q1, q2, q3, q4, q5⟩ := hmb
              refine ⟨fun i hi => ?_, (fM.I (fun z => by omega)).trans q2, (fM.I (fun z => by omega)).trans q3, fun z => ⟨(fM.I (fun z => by omega)).trans (q4 z).1, (fM.I (fun z => by omega)).trans (q4 z).2⟩, fun z => ?_⟩
              · show gI _ (A + 4) (200 * (16 * j + n) + i) = nI (if i = a then w else b.1 i)
                by_cases ci : i = a
                · rw [if_pos ci, ci, gI_sI_s]
                · rw [if_neg ci, gI_sI_n (Or.inr (by omega))]; exact q1 i hi
              · have z : b.2.2.1 = false := z
                rw [hse] at z; cases z
            · rw [if_neg ck] at hb'
              have hkl := (List.getElem?_eq_some_iff.mp hb').1
              have hb200 := (hS.2.2.2.2.2.2.2.2.1 b' (List.mem_of_getElem? hb')).1.2.2.1
              exact (a4 k b' hb').on fM (fun i hi z => by omega) (fun a _ _ z => by omega)
