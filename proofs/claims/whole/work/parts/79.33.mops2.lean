/-! ===== calls of the reference: where, since, point, window, count ===== -/
theorem hasA_mem {l : List Pt} (h : srt l) (t : Nat) : hasA l t = true ↔ ∃ q ∈ l, q.1 = t := by
  rw [hasA_iff]
  constructor
  · intro z
    cases hx : l[ff t l]? with
    | none => rw [hx] at z; cases z
    | some q =>
      rw [hx] at z
      refine ⟨q, List.mem_of_getElem? hx, ?_⟩
      simpa using z
  · rintro ⟨q, hq, rfl⟩
    obtain ⟨k, hk⟩ := List.getElem?_of_mem hq
    have a1 := ff_iff h (q.1 : Int) hk
    have hkl := (List.getElem?_eq_some_iff.mp hk).1
    rcases Nat.lt_or_ge k (ff q.1 l) with c | c
    · have := a1.mpr c; omega
    · obtain ⟨w, hw⟩ := get_some (l := l) (i := ff q.1 l) (by omega)
      have a2 := (ff_spec (q.1 : Int) l).2 w hw
      rcases Nat.lt_or_ge (ff q.1 l) k with c3 | c3
      · have := srt_lt h hw hk c3; omega
      · have e : k = ff q.1 l := by omega
        rw [← e, hk]; rfl
theorem whF_at {t : Int} : ∀ (bl : List Bk) (i k : Nat) (b : Bk), bl[k]? = some b → touA b t t = true → (∀ k' b', k' < k → bl[k']? = some b' → touA b' t t = false) → whF t i bl = some (i + k)
  | [], _, _, _, h, _, _ => by simp at h
  | a :: bl, i, 0, b, h, ht, _ => by
    cases h
    rw [whF, if_pos ht]; rfl
  | a :: bl, i, k + 1, b, h, ht, hn => by
    rw [whF, if_neg (by rw [hn 0 a (by omega) rfl]; decide), whF_at bl (i + 1) k b h ht (fun k' b' hk hb => hn (k' + 1) b' (by omega) hb)]
    congr 1; omega
theorem mwhere_ok {K : Kn} {m : Mem} {A : Nat} {s : St} (hok : stOk s) (h : RM K m A s) (x t : Int32) : okM K m A (F_X9_where K m A x t) (aWhere s x t) s := by
  unfold F_X9_where f_X9_where aWhere
  rcases isAsked_ok hok h x t with ⟨hs, hn⟩ | ⟨S, hs, hn⟩
  · rw [hn, hs, bind_e, if_pos rfl]; exact okM.same h
  · rw [hn, hs, bind_e]
    dsimp only
    by_cases ct : stm t = true
    · rw [if_pos ct, if_pos ct, if_neg (by decide)]
      obtain ⟨m1, r1, r2, r3, ⟨g1, g2⟩, r5, hS, g3, g4⟩ := gathM hok h hs
      obtain ⟨n, hn2, rfl, hti⟩ := stm_nI ct
      rw [r1, bind_e, hti, nI_clamp (by omega)]
      have hls := hS.2.2.2.2.2.1
      have hhas := hasA_mem hls n
      rcases placeOf_ok g1 g2 g3 g4 (nI n) with ⟨y, p1, p2, p3, p4⟩ | ⟨p1, p2⟩
      · rw [p3, bind_e, if_neg (nI_ne_m1 (by omega)), g1.d32, bind_e, g1.g32 p4, bind_e]
        rw [hti] at p2
        have hy1 : y.1 = n := by omega
        have hq := (g2.2.2 _ y p1).2.2
        rcases hq with ⟨z1, z2⟩ | ⟨z1, k, b, z2, z3, z4, xx, z5, z6⟩
        · rw [hy1] at z2
          rw [z1, if_pos (hhas.mpr z2)]
          exact okM.kp hok h r2
        · rw [hy1] at z1 z6
          rw [if_neg (fun z => by obtain ⟨q, q1, q2⟩ := hhas.mp z; exact z1 q q1 q2), z3, span_pt hS (List.mem_of_getElem? p1) p2]
          have hbm := hS.2.2.2.2.2.2.2.2.1 b (List.mem_of_getElem? z2)
          have hr := (ptsB_facts hbm.1).2.1 (ptV xx) (List.mem_map_of_mem z5)
          have hr1 : b.2.2.2.1 ≤ n ∧ n ≤ b.2.2.2.2 := by rw [← z6]; exact hr
          have hw : whF (n : Int) 0 S.2.2.2 = some (0 + k) := by
            refine whF_at S.2.2.2 0 k b z2 ?_ (fun k' b' hk hb => ?_)
            · unfold touA
              rw [z4, decide_eq_true (by omega), decide_eq_true (by omega)]; rfl
            · have hpw := hS.2.2.2.2.2.2.2.2.2
              have hlt : b'.2.2.2.2 < b.2.2.2.1 := by
                have i1 := (List.getElem?_eq_some_iff.mp hb)
                have i2 := (List.getElem?_eq_some_iff.mp z2)
                have := (List.pairwise_iff_getElem.mp hpw) k' k i1.1 i2.1 hk
                rw [i1.2, i2.2] at this
                exact this.2
              unfold touA
              rw [decide_eq_false (show ¬ (n : Int) ≤ (b'.2.2.2.2 : Int) by omega), Bool.and_false]
          rw [hw]
          dsimp only
          rw [if_neg (by simp), Nat.zero_add]
          exact okM.kp hok h r2
      · rw [p2, bind_e, if_pos rfl]
        rw [hti] at p1
        rw [if_neg (fun z => by
          obtain ⟨q, q1, q2⟩ := hhas.mp z
          exact p1 q ((allP_spec hS).2 q |>.mpr (Or.inl q1)) (by omega)), span_no p1]
        cases whF (n : Int) 0 S.2.2.2 with
        | none => exact okM.kp hok h r2
        | some k => exact okM.kp hok h r2
    · rw [if_neg ct, if_neg ct, if_pos rfl]; exact okM.same h
theorem slice_e {l : List Pt} (hs : srt l) {f t : Int} : l.filter (fun q => decide (f ≤ (q.1 : Int) ∧ (q.1 : Int) ≤ t)) = (l.drop (ff f l)).take (ff (t + 1) l - ff f l) := by
  refine srt_ext (List.Pairwise.sublist List.filter_sublist hs) (srt_take (srt_drop hs _) _) (fun q => ?_)
  rw [List.mem_filter, decide_eq_true_eq]
  constructor
  · rintro ⟨h1, h2, h3⟩
    obtain ⟨k, hk⟩ := List.getElem?_of_mem h1
    have a1 := ff_iff hs f hk
    have a2 := ff_iff hs (t + 1) hk
    have c1 : ff f l ≤ k := by
      rcases Nat.lt_or_ge k (ff f l) with c | c
      · have := a1.mpr c; omega
      · exact c
    have c2 : k < ff (t + 1) l := a2.mp (by omega)
    refine List.mem_of_getElem? (i := k - ff f l) ?_
    rw [List.getElem?_take_of_lt (by omega), List.getElem?_drop, Nat.add_sub_cancel' c1]
    exact hk
  · intro hq
    obtain ⟨k, hk⟩ := List.getElem?_of_mem hq
    have hkl := (List.getElem?_eq_some_iff.mp hk).1
    rw [List.length_take] at hkl
    have hkl : k < ff (t + 1) l - ff f l := by omega
    rw [List.getElem?_take_of_lt hkl, List.getElem?_drop] at hk
    have a1 := ff_iff hs f hk
    have a2 := ff_iff hs (t + 1) hk
    have := a2.mpr (by omega)
    refine ⟨List.mem_of_getElem? hk, ?_, by omega⟩
    rcases Int.lt_or_le (q.1 : Int) f with c | c
    · have := a1.mp c; omega
    · exact c
theorem ff_0 (l : List Pt) : ff 0 l = 0 := by
  cases l with
  | nil => rfl
  | cons q l => rw [ff, if_neg (by omega)]
theorem ff_mono {l : List Pt} {f t : Int} (h : f ≤ t) : ff f l ≤ ff t l := by
  induction l with
  | nil => exact Nat.le_refl _
  | cons q l ih =>
    rw [ff, ff]
    by_cases c : (q.1 : Int) < f
    · rw [if_pos c, if_pos (by omega)]; omega
    · rw [if_neg c]; exact Nat.zero_le _
theorem lZ_1 (t : Int) : lZ t + (1 : Int64) = lZ (t + 1) := by rw [show (1 : Int64) = lZ 1 from rfl, lZ_add]
theorem msince_ok {K : Kn} {m : Mem} {A : Nat} {s : St} (hok : stOk s) (h : RM K m A s) (x t : Int32) : okM K m A (F_X9_since K m A x t) (aSince s x t) s := by
  unfold F_X9_since f_X9_since aSince
  rcases isAsked_ok hok h x t with ⟨hs, hn⟩ | ⟨S, hs, hn⟩
  · rw [hn, hs, bind_e, if_pos rfl]; exact okM.same h
  · rw [hn, hs, bind_e]
    dsimp only
    by_cases ct : stm t = true
    · rw [if_pos ct, if_pos ct, if_neg (by decide)]
      obtain ⟨m1, r1, r2, r3, ⟨g1, g2⟩, r5, hS, g3, g4⟩ := gathM hok h hs
      have hb := i32b t
      rw [r1, bind_e, iL, lZ_1, firstNot_ok g1 g2 g3 g4 (by omega) (by omega), bind_e]
      have hle := ff_le (t.toInt + 1) (allP S)
      have hlen := g2.2.1
      have esp : spanP S 0 t.toInt = (allP S).take (ff (t.toInt + 1) (allP S)) := by
        unfold spanP
        rw [slice_e g3, ff_0, List.drop_zero, Nat.sub_zero]
      rw [esp]
      by_cases c : ff (t.toInt + 1) (allP S) = 0
      · rw [if_pos (by rw [c]; rfl), c]
        exact okM.kp hok h r2
      · obtain ⟨y, hy⟩ := get_some (l := allP S) (i := ff (t.toInt + 1) (allP S) - 1) (by omega)
        rw [if_neg (fun z => c ((nI_zero (by omega)).mp z)), g1.d30, bind_e, show (1 : Int32) = nI 1 from rfl, pk_sub (by omega), g1.g30 (by omega), bind_e, (g2.2.2 _ y hy).1, l2i_lN]
        have : lastA ((allP S).take (ff (t.toInt + 1) (allP S))) = nI y.1 := by
          unfold lastA
          rw [List.getLast?_eq_getElem?, List.length_take, show min (ff (t.toInt + 1) (allP S)) (allP S).length - 1 = ff (t.toInt + 1) (allP S) - 1 by omega, List.getElem?_take_of_lt (by omega), hy]
        rw [this]
        exact okM.kp hok h r2
    · rw [if_neg ct, if_neg ct, if_pos rfl]; exact okM.same h
theorem mpoint_ok {K : Kn} {m : Mem} {A : Nat} {s : St} (hok : stOk s) (h : RM K m A s) (x i w : Int32) : okM K m A (F_X9_point K m A x i w) (aPoint s x i w) s := by
  unfold F_X9_point f_X9_point aPoint
  rcases isSeries_ok hok h x with ⟨hs, hn⟩ | ⟨S, hs, hn⟩
  · rw [hn, hs, bind_e, if_pos rfl]; exact okM.same h
  · rw [hn, hs, bind_e, if_neg (by decide)]
    dsimp only
    have hi0 : 0 ≤ i ↔ ¬ i < 0 := by rw [fa_le, fa_lt]; omega
    have hw1 : (1 : Int32) < w ↔ ¬ w ≤ (1 : Int32) := by rw [fa_le, fa_lt]; omega
    by_cases ci : i < 0
    · rw [if_pos ci, if_neg (fun z => hi0.mp z ci)]
      have : (if w < 0 then (-1 : Int64) else if (1 : Int32) < w then -1 else -1) = -1 := by split; rfl; split <;> rfl
      rw [this]; exact okM.same h
    rw [if_neg ci, if_pos (hi0.mpr ci)]
    rcases in_w 1 (by decide) w with ⟨hi, c1 | ⟨c1, c2⟩⟩ | ⟨hi, c1, c2⟩
    · have hi : F_X9_in w.toInt64 (0 : Int64) (1 : Int64) = some 0 := hi
      rw [hi, bind_e, if_pos rfl, if_pos c1]; exact okM.same h
    · have hi : F_X9_in w.toInt64 (0 : Int64) (1 : Int64) = some 0 := hi
      have c2 : ¬ w ≤ (1 : Int32) := c2
      rw [hi, bind_e, if_pos rfl, if_neg c1, if_pos (hw1.mpr c2)]; exact okM.same h
    · have hi : F_X9_in w.toInt64 (0 : Int64) (1 : Int64) = some 1 := hi
      have c2 : w ≤ (1 : Int32) := c2
      obtain ⟨m1, r1, r2, r3, ⟨g1, g2⟩, r5, hS, g3, g4⟩ := gathM hok h hs
      rw [hi, bind_e, if_neg (by decide), if_neg c1, if_neg (fun z => hw1.mp z c2), r1, bind_e, g2.1]
      obtain ⟨n, hn2, rfl, hcl⟩ := idx_nI ci
      have hlen := g2.2.1
      rw [hcl]
      by_cases c3 : nI n < nI (allP S).length
      · have c4 : n < (allP S).length := (nI_ltI (by omega) (by omega)).mp c3
        obtain ⟨y, hy⟩ := get_some (l := allP S) (i := n) c4
        have hy2 := g4 y (List.mem_of_getElem? hy)
        rw [if_pos c3, if_pos c3, hy]
        by_cases w0 : w = 0
        · rw [if_pos w0, if_pos w0, g1.d30, bind_e, g1.g30 (by omega), bind_e, (g2.2.2 _ y hy).1]
          show okM K m A (some (lN y.1, m1)) ((nI y.1).toInt64) s
          rw [nI_long (by omega)]
          exact okM.kp hok h r2
        · rw [if_neg w0, if_neg w0, g1.d31, bind_e, g1.g31 (by omega), bind_e, (g2.2.2 _ y hy).2.1]
          exact okM.kp hok h r2
      · rw [if_neg c3, if_neg c3]
        exact okM.kp hok h r2
/-- the last point stands at hand, if a block is not sealed -/
theorem opens_ok {K : Kn} {m : Mem} {A j : Nat} {S : Sr} (h : MS K m A) (hj : j < 4) (hS : srOk S) (hm : smR m A j S) : ∃ m', F_X9_opens K m A (nI j) = some m' ∧ KP A m m' ∧ fr (WA A) m m' ∧ (match opA S.2.2.2 with
    | none => m' = m
    | some (p, c) => csM m' A c ∧ gI m' A 20 = nI p) := by
  unfold F_X9_opens f_X9_opens
  have h16 := hS.2.2.2.2.2.2.2.1
  rw [h.d2, bind_e, h.g2 (by omega), bind_e, hm.2.2.1]
  rcases last_cases S.2.2.2 with hb | ⟨bl0, b, hb⟩
  · rw [hb, if_pos (by decide)]
    exact ⟨m, rfl, KP.refl A m, fr.refl m, rfl⟩
  · have hlen : S.2.2.2.length = bl0.length + 1 := by rw [hb]; simp
    have hget : S.2.2.2[bl0.length]? = some b := by rw [hb]; exact get_last bl0 b
    have hbok := (hS.2.2.2.2.2.2.2.2.1 b (by rw [hb]; simp)).1
    have hmb := hm.2.2.2.1 _ b hget
    have idx : (16 : Int32) * nI j + nI (bl0.length + 1) - (1 : Int32) = nI (16 * j + bl0.length) := by
      rw [show (16 : Int32) = nI 16 from rfl, show (1 : Int32) = nI 1 from rfl, nI_mul, nI_add, pk_sub (by omega), show 16 * j + (bl0.length + 1) - 1 = 16 * j + bl0.length by omega]
    simp only [h.d6, bind_e, h.g2 (show j < 5 by omega), hm.2.2.1, hlen, idx]
    rw [if_neg (fun z => by have := (nI_leI (b := 0) (by omega) (by omega)).mp z; omega), h.g6 (by omega), bind_e, hmb.2.2.1]
    cases hs : b.2.2.1 with
    | true =>
      rw [if_pos rfl, if_neg (by decide), hb, opA_t hs]
      exact ⟨m, rfl, KP.refl A m, fr.refl m, rfl⟩
    | false =>
      rw [if_neg (by decide : ¬ (false = true)), if_pos rfl]
      obtain ⟨p, c, l, hr, -⟩ := ok_open hbok hs
      obtain ⟨m1, r1, r2, r3, r4⟩ := isBroken_ok h (by omega) hbok hmb
      have e0 : F_X9_reads K m A (nI (16 * j + bl0.length)) = some m1 := by
        unfold F_X9_isBroken f_X9_isBroken at r1
        cases hx : F_X9_reads K m A (nI (16 * j + bl0.length)) with
        | none => rw [hx] at r1; cases r1
        | some m2 =>
          rw [hx, bind_e] at r1
          split at r1 <;> rw [(Prod.mk.inj (Option.some.inj r1)).2]
      rw [e0, bind_e, hb, opA_f hs hr]
      rw [hr] at r4
      exact ⟨m1, rfl, r2, r3.mono (fun a k z => WQ_WA z), r4.2.2.2.1, r4.2.2.2.2.1⟩
theorem opA_ok {S : Sr} (hS : srOk S) {p : Nat} {c : Cs} (h : opA S.2.2.2 = some (p, c)) : csOk c ∧ p ≤ 1480 ∧ (c.1 : Int) ≤ S.2.1 := by
  rcases last_cases S.2.2.2 with hb | ⟨bl0, b, hb⟩
  · rw [hb, opA_nil] at h; cases h
  · have hbm := hS.2.2.2.2.2.2.2.2.1 b (by rw [hb]; simp)
    cases hs : b.2.2.1 with
    | true => rw [hb, opA_t hs] at h; cases h
    | false =>
      obtain ⟨p', c', l, hr, -⟩ := ok_open hbm.1 hs
      rw [hb, opA_f hs hr] at h
      cases h
      obtain ⟨f1, f2, f3, f4, f5, f6, f7, f8, f9, f10, f11⟩ := rs_facts hbm.1 hr
      exact ⟨f5, f4, by omega⟩
theorem mwindow_ok {K : Kn} {m : Mem} {A : Nat} {s : St} (hok : stOk s) (h : RM K m A s) (x w : Int32) : okM K m A (F_X9_window K m A x w) (aWindow s x w) s := by
  unfold F_X9_window f_X9_window aWindow
  rcases isSeries_ok hok h x with ⟨hs, hn⟩ | ⟨S, hs, hn⟩
  · rw [hn, hs, bind_e, if_pos rfl]; exact okM.same h
  · rw [hn, hs, bind_e, if_neg (by decide)]
    dsimp only
    rcases in_w 1 (by decide) w with ⟨hi, c1 | ⟨c1, c2⟩⟩ | ⟨hi, c1, c2⟩
    · have hi : F_X9_in w.toInt64 (0 : Int64) (1 : Int64) = some 0 := hi
      rw [hi, bind_e, if_pos rfl, if_pos c1]; exact okM.same h
    · have hi : F_X9_in w.toInt64 (0 : Int64) (1 : Int64) = some 0 := hi
      have c2 : ¬ w ≤ (1 : Int32) := c2
      rw [hi, bind_e, if_pos rfl, if_neg c1, if_neg c2]; exact okM.same h
    · have hi : F_X9_in w.toInt64 (0 : Int64) (1 : Int64) = some 1 := hi
      have c2 : w ≤ (1 : Int32) := c2
      rw [hi, bind_e, if_neg (by decide), if_neg c1, if_pos c2, bd_e]
      have k1 : KP A m (sI m A 19 0) := KP.of (W := fun a k => a = A ∧ k = 19) (fr_sI ⟨rfl, rfl⟩) (fun a k z => by omega)
      have g19 : gI (sI m A 19 0) A 19 = 0 := gI_sI_s
      generalize sI m A 19 0 = m1 at k1 g19 ⊢
      have h1 := h.keep hok k1
      obtain ⟨j, hj, rfl, hsj, hS, hm⟩ := h1.at hok hs
      obtain ⟨m2, r1, r2, r3, r4⟩ := opens_ok h1.1 hj hS hm
      rw [r1, bind_e]
      have k2 := k1.trans r2
      cases ho : opA S.2.2.2 with
      | none =>
        rw [ho] at r4
        dsimp only at r4
        rw [r4, if_pos g19]
        exact okM.kp hok h (r4 ▸ k2)
      | some pc =>
        obtain ⟨p, c⟩ := pc
        rw [ho] at r4
        have hc := r4.1.2.2.2
        dsimp only
        cases hw : c.2.2.2 with
        | none =>
          rw [hw] at hc
          rw [if_pos hc]
          exact okM.kp hok h k2
        | some q =>
          rw [hw] at hc
          obtain ⟨d1, d2, d3⟩ := hc
          rw [d1, if_neg (by decide), d2, d3]
          dsimp only
          by_cases w0 : w = 0
          · rw [if_pos w0, if_pos w0]; exact okM.kp hok h k2
          · rw [if_neg w0, if_neg w0]; exact okM.kp hok h k2
theorem bytesOf_loop {K : Kn} {m : Mem} {A j : Nat} {bl : List Bk} (h : MS K m A) (hj : j < 5) (hl : bl.length ≤ 16) (h3 : gI m (A + 3) j = nI bl.length) (hb : ∀ (k : Nat) (b : Bk), bl[k]? = some b → gI m (A + 5) (16 * j + k) = nI b.2.1) : F_X9_bytesOf K m A (nI j) = some (bysA bl) := by
  unfold F_X9_bytesOf f_X9_bytesOf bysA
  refine scan0 bl (by omega) (fun n x i => f_X9_bytesOf_4 K m A (nI j) n x (nI i)) _ (fun x => x) 0 (fun n x i b hi => ?_) (fun n x => ?_)
  · have hil := (List.getElem?_eq_some_iff.mp hi).1
    show f_X9_bytesOf_4B K m A (nI j) (f_X9_bytesOf_4 K m A (nI j) n) x (nI i) = _
    unfold f_X9_bytesOf_4B
    rw [h.d2, bind_e, h.g2 (by omega), bind_e, h3, if_neg (fun z => by have := (nI_leI (by omega) (by omega)).mp z; omega), show (16 : Int32) = nI 16 from rfl, nI_mul, nI_add, h.d4, bind_e, h.g4 (by omega), bind_e, hb i b hi, bd_e, bd_e, nI_1]
  · show f_X9_bytesOf_4B K m A (nI j) (f_X9_bytesOf_4 K m A (nI j) n) x (nI bl.length) = _
    unfold f_X9_bytesOf_4B
    rw [h.d2, bind_e, h.g2 (by omega), bind_e, h3, if_pos ((nI_leI (by omega) (by omega)).mpr (Nat.le_refl _))]
