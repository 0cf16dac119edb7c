/-! ===== the reference: thin, cuts ===== -/
theorem lN_div {a d : Nat} (ha : a < 2 ^ 31) (h0 : 0 < d) (hd : d < 2 ^ 31) : lN a / lN d = lN (a / d) := by
  have h1 : a / d < 2 ^ 31 := Nat.lt_of_le_of_lt (Nat.div_le_self a d) ha
  apply Int64.toInt_inj.mp
  rw [Int64.toInt_div, pf_lI (by omega), pf_lI (by omega), pf_lI (by omega)]
  have e : ((a : Int).tdiv (d : Int)) = ((a / d : Nat) : Int) := by
    rw [Int.tdiv_eq_ediv_of_nonneg (by omega)]; exact (Int.natCast_ediv a d).symm
  rw [e]
  apply Int.bmod_eq_of_le
  · have : (0 : Int) ≤ ((a / d : Nat) : Int) := Int.natCast_nonneg _
    have h2 : -((2 ^ 64 : Nat) : Int) / 2 = -9223372036854775808 := by decide
    omega
  · have h2 : (((2 ^ 64 : Nat) : Int) + 1) / 2 = 9223372036854775808 := by decide
    omega
def kaM (m : Mem) (A : Nat) (l acc : List Pt) (i : Nat) : Prop := acc.length ≤ i ∧ i ≤ l.length ∧ l.length ≤ 12040 ∧ (∀ (j : Nat) (x : Pt), acc[j]? = some x → gJ m (A + 19) j = lN x.1 ∧ gJ m (A + 20) j = x.2) ∧ ∀ (j : Nat) (x : Pt), i ≤ j → l[j]? = some x → gJ m (A + 19) j = lN x.1 ∧ gJ m (A + 20) j = x.2
theorem kaM_skip {m : Mem} {A i : Nat} {l acc : List Pt} (h : kaM m A l acc i) (hi : i < l.length) : kaM m A l acc (i + 1) := ⟨by have := h.1; omega, by omega, h.2.2.1, h.2.2.2.1, fun j x hj => h.2.2.2.2 j x (by omega)⟩
theorem kaM_push {m m' : Mem} {A i : Nat} {l acc : List Pt} {q : Pt} (h : kaM m A l acc i) (hq : l[i]? = some q) (e : fr (fun a k => (a = A + 19 ∨ a = A + 20) ∧ k = acc.length) m m') (h1 : gJ m' (A + 19) acc.length = lN q.1) (h2 : gJ m' (A + 20) acc.length = q.2) : kaM m' A l (acc ++ [q]) (i + 1) := by
  obtain ⟨a1, a2, a3, a4, a5⟩ := h
  have hil := (List.getElem?_eq_some_iff.mp hq).1
  refine ⟨by rw [List.length_append]; show acc.length + 1 ≤ i + 1; omega, by omega, a3, fun j x hx => ?_, fun j x hj hx => ?_⟩
  · by_cases c : j < acc.length
    · rw [List.getElem?_append_left c] at hx
      exact ⟨(e.J (fun z => by omega)).trans (a4 j x hx).1, (e.J (fun z => by omega)).trans (a4 j x hx).2⟩
    · have hj := (List.getElem?_eq_some_iff.mp hx).1
      rw [List.length_append] at hj
      have hj : j = acc.length := by simp at hj; omega
      rw [hj, List.getElem?_append_right (Nat.le_refl _), Nat.sub_self] at hx
      cases hx
      rw [hj]; exact ⟨h1, h2⟩
  · exact ⟨(e.J (fun z => by omega)).trans (a5 j x (by omega) hx).1, (e.J (fun z => by omega)).trans (a5 j x (by omega) hx).2⟩
/-- one point comes to a place below -/
theorem mvJ {K : Kn} {m : Mem} {A i n : Nat} (h : MS K m A) (hi : i < 12040) (hn : n < 12040) : ∃ m', ((ldA K m A 30 1).bind fun b1 => (ldA K m A 30 1).bind fun b2 => (alJ K m b2 (nI i)).bind fun r3 => (asJ K m b1 (nI n) r3).bind fun m4 => (ldA K m4 A 31 1).bind fun b5 => (ldA K m4 A 31 1).bind fun b6 => (alJ K m4 b6 (nI i)).bind fun r7 => (asJ K m4 b5 (nI n) r7).bind fun m8 => some m8) = some m' ∧ gJ m' (A + 19) n = gJ m (A + 19) i ∧ gJ m' (A + 20) n = gJ m (A + 20) i ∧ fr (fun a k => (a = A + 19 ∨ a = A + 20) ∧ k = n) m m' := by
  have s1 : ∀ v, MS K (sJ m (A + 19) n v) A := fun v => h.on (fr_sJ (W := fun _ _ => True) trivial)
  rw [h.d30, bind_e, bind_e, h.g30 hi, bind_e, h.s30 hn, bind_e, (s1 _).d31, bind_e, bind_e, (s1 _).g31 hi, bind_e, (s1 _).s31 hn, bind_e]
  refine ⟨_, rfl, ?_, ?_, (fr_sJ ⟨Or.inl rfl, rfl⟩).trans (fr_sJ ⟨Or.inr rfl, rfl⟩)⟩
  · rw [gJ_sJ_n (Or.inl (by omega)), gJ_sJ_s]
  · rw [gJ_sJ_s, gJ_sJ_n (Or.inl (by omega))]
theorem kaM.al {m : Mem} {A : Nat} {l acc : List Pt} (h : kaM m A l acc l.length) : alM (sI m A 33 (nI acc.length)) A acc (fun _ _ => True) := by
  obtain ⟨a1, a2, a3, a4, a5⟩ := h
  refine ⟨gI_sI_s, by omega, fun i x hx => ⟨?_, ?_, trivial⟩⟩
  · rw [gJ_sI]; exact (a4 i x hx).1
  · rw [gJ_sI]; exact (a4 i x hx).2
theorem alM.ka {m : Mem} {A : Nat} {l : List Pt} {Q : Nat → Int32 → Prop} (h : alM m A l Q) : kaM m A l [] 0 := ⟨Nat.zero_le _, Nat.zero_le _, h.2.1, fun j x hx => by simp at hx, fun j x _ hx => ⟨(h.2.2 j x hx).1, (h.2.2 j x hx).2.1⟩⟩
theorem thin_50 {K : Kn} {A step : Nat} {x1 : Int32} {l : List Pt} (hs1 : 1 ≤ step) (hs2 : step ≤ 1000000) (hle : ∀ q ∈ l, q.1 ≤ 2000000000) : ∀ (f i : Nat) (m : Mem) (acc : List Pt), l.length - i < f → MS K m A → kaM m A l acc i → (∀ q ∈ acc, q.1 ≤ 2000000000) → ∃ m' n', f_X9_thin_50 K A x1 (nI step) f m (nI l.length) (nI acc.length) (nI i) = f_X9_thin_50 K A x1 (nI step) (n' + 1) m' (nI l.length) (nI ((l.drop i).foldl (thinF step) acc).length) (nI l.length) ∧ MS K m' A ∧ kaM m' A l ((l.drop i).foldl (thinF step) acc) l.length ∧ KP A m m'
  | 0, _, _, _, h, _, _, _ => absurd h (Nat.not_lt_zero _)
  | f + 1, i, m, acc, hf, h, hk, hacc => by
    have hk0 := hk
    obtain ⟨k1, k2, k3, k4, k5⟩ := hk
    by_cases c : i = l.length
    · subst c
      rw [List.drop_eq_nil_of_le (Nat.le_refl _)]
      exact ⟨m, f, rfl, h, hk0, KP.refl A m⟩
    · have unf : f_X9_thin_50 K A x1 (nI step) (f + 1) m (nI l.length) (nI acc.length) (nI i) = f_X9_thin_50B K A x1 (nI step) (f_X9_thin_50 K A x1 (nI step) f) m (nI l.length) (nI acc.length) (nI i) := rfl
      obtain ⟨q, hq⟩ := get_some (l := l) (i := i) (by omega)
      have hq2 := hle q (List.mem_of_getElem? hq)
      obtain ⟨g1, g2⟩ := k5 i q (Nat.le_refl _) hq
      rw [unf, drop_get hq, List.foldl_cons]
      unfold f_X9_thin_50B
      rw [if_neg (fun z => by have := (nI_leI (by omega) (by omega)).mp z; omega)]
      have push : ∃ m' n', f_X9_thin_87 K A x1 (nI step) (f_X9_thin_50 K A x1 (nI step) f) m (nI l.length) (nI acc.length) (nI i) = f_X9_thin_50 K A x1 (nI step) (n' + 1) m' (nI l.length) (nI ((l.drop (i + 1)).foldl (thinF step) (acc ++ [q])).length) (nI l.length) ∧ MS K m' A ∧ kaM m' A l ((l.drop (i + 1)).foldl (thinF step) (acc ++ [q])) l.length ∧ KP A m m' := by
        obtain ⟨m1, e1, e2, e3, e4⟩ := mvJ (K := K) (n := acc.length) h (show i < 12040 by omega) (by omega)
        have e87 : f_X9_thin_87 K A x1 (nI step) (f_X9_thin_50 K A x1 (nI step) f) m (nI l.length) (nI acc.length) (nI i) = f_X9_thin_50 K A x1 (nI step) f m1 (nI l.length) (nI (acc.length + 1)) (nI (i + 1)) := by
          unfold f_X9_thin_87 f_X9_thin_118
          have s1 : ∀ v, MS K (sJ m (A + 19) acc.length v) A := fun v => h.on (fr_sJ (W := fun _ _ => True) trivial)
          have hn : acc.length < 12040 := by omega
          have hi : i < 12040 := by omega
          rw [h.d30, bind_e, bind_e, h.g30 hi, bind_e, h.s30 hn, bind_e, (s1 _).d31, bind_e, bind_e, (s1 _).g31 hi, bind_e, (s1 _).s31 hn, bind_e] at e1
          rw [h.d30, bind_e, bind_e, h.g30 hi, bind_e, h.s30 hn, bind_e, (s1 _).d31, bind_e, bind_e, (s1 _).g31 hi, bind_e, (s1 _).s31 hn, bind_e, bd_e, bd_e, nI_1, nI_1, Option.some.inj e1]
        obtain ⟨m2, n2, r1, r2, r3, r4⟩ := thin_50 (K := K) (x1 := x1) hs1 hs2 hle f (i + 1) m1 (acc ++ [q]) (by omega) (h.on e4) (kaM_push hk0 hq e4 (e2.trans g1) (e3.trans g2)) (fun y hy => by
          rcases List.mem_append.mp hy with hy | hy
          · exact hacc y hy
          · rw [List.mem_singleton.mp hy]; exact hq2)
        rw [List.length_append] at r1
        have r1 : f_X9_thin_50 K A x1 (nI step) f m1 (nI l.length) (nI (acc.length + 1)) (nI (i + 1)) = _ := r1
        exact ⟨m2, n2, e87.trans r1, r2, r3, (KP.of e4 (fun a k z => by omega)).trans r4⟩
      by_cases c0 : acc.length = 0
      · rw [if_pos ((nI_zero (by omega)).mpr c0)]
        have : acc = [] := List.eq_nil_of_length_eq_zero c0
        subst this
        exact push
      · rw [if_neg (fun z => c0 ((nI_zero (by omega)).mp z))]
        obtain ⟨z, hz⟩ := get_some (l := acc) (i := acc.length - 1) (by omega)
        have hz2 := hacc z (List.mem_of_getElem? hz)
        have hgl : acc.getLast? = some z := by rw [List.getLast?_eq_getElem?]; exact hz
        have hs0 : ¬ (nI step).toInt64 = 0 := fun y => by
          rw [nI_long (by omega)] at y
          have := (lN_eq (a := step) (b := 0) (by omega) (by omega)).mp y
          omega
        rw [h.d30, bind_e, h.g30 (by omega), bind_e, gd_t hs0, bind_e, show (1 : Int32) = nI 1 from rfl, pk_sub (by omega), h.g30 (by omega), bind_e, gd_t hs0, g1, (k4 _ z hz).1, nI_long (by omega), lN_div (by omega) (by omega) (by omega), lN_div (by omega) (by omega) (by omega)]
        have d1 : q.1 / step ≤ q.1 := Nat.div_le_self _ _
        have d2 : z.1 / step ≤ z.1 := Nat.div_le_self _ _
        have ie : lg_cmp (lN (q.1 / step)) (lN (z.1 / step)) = 0 ↔ q.1 / step = z.1 / step := lgN (by omega) (by omega)
        have eF : thinF step acc q = if q.1 / step = z.1 / step then acc else acc ++ [q] := by
          unfold thinF; rw [hgl]
        rw [eF]
        by_cases d : q.1 / step = z.1 / step
        · rw [if_pos (ie.mpr d), if_pos d]
          unfold f_X9_thin_118
          rw [bd_e, nI_1]
          exact thin_50 (K := K) (x1 := x1) hs1 hs2 hle f (i + 1) m acc (by omega) h (kaM_skip hk0 (by omega)) hacc
        · rw [if_neg (fun y => d (ie.mp y)), if_neg d]
          exact push
theorem mthin_ok {K : Kn} {m : Mem} {A : Nat} {s : St} (hok : stOk s) (h : RM K m A s) (x w : Int32) : okM K m A (F_X9_thin K m A x w) (nThin s x w).1 (nThin s x w).2 := by
  unfold F_X9_thin f_X9_thin nThin
  rcases isSeries_ok hok h x with ⟨hs, hn⟩ | ⟨S, hs, hn⟩
  · rw [hn, hs, bind_e, if_pos rfl]; exact okM.same h
  · rw [hn, hs, bind_e, if_neg (by decide)]
    dsimp only
    rcases in_52 1000000 (by decide) (by decide) w with ⟨hi, c1 | ⟨c1, c2⟩⟩ | ⟨hi, c1, c2⟩
    · have hi : F_X9_in w.toInt64 (1 : Int64) (1000000 : Int64) = some 0 := hi
      rw [hi, bind_e, if_pos rfl, if_pos c1]; exact okM.same h
    · have hi : F_X9_in w.toInt64 (1 : Int64) (1000000 : Int64) = some 0 := hi
      have c2 : ¬ w ≤ (1000000 : Int32) := c2
      rw [hi, bind_e, if_pos rfl, if_neg c1, if_neg c2]; exact okM.same h
    · have hi : F_X9_in w.toInt64 (1 : Int64) (1000000 : Int64) = some 1 := hi
      have c2' : w ≤ (1000000 : Int32) := c2
      rw [hi, bind_e, if_neg (by decide), if_neg c1, if_pos c2']
      obtain ⟨j, hj, rfl, hsj, hS, hm⟩ := h.at hok hs
      obtain ⟨n, hn2, rfl, hnc⟩ := idx_nI (k := w) (fun z => c1 (by rw [fa_lt] at z ⊢; have : (0 : Int32).toInt = 0 := rfl; have : (1 : Int32).toInt = 1 := rfl; omega))
      have n52 : n ≤ 1000000 := (nI_leI (by omega) (by omega)).mp c2
      have n1 : 1 ≤ n := by
        rcases Nat.lt_or_ge n 1 with g | g
        · exact absurd ((nI_ltI (b := 1) (by omega) (by omega)).mpr g) c1
        · exact g
      have hr := hS.room
      obtain ⟨m1, r1, r2⟩ := hasBrokenM hj hS h.1 hm
      rw [r1, bind_e, hnc]
      by_cases cs : sndL S.2.2.2 = true
      · rw [if_pos cs, if_pos cs, if_pos rfl]
        have h1 := h.keep hok r2
        obtain ⟨m2, g1, g2, g3, ⟨g4, g5⟩, g6, -, g7, g8⟩ := gathM hok h1 hs
        rw [g1, bind_e, bd_e, g5.1]
        have hlen := g5.2.1
        obtain ⟨m3, n3, q1, q2, q3, q4⟩ := thin_50 (K := K) (x1 := nI j) n1 n52 g8 FU 0 m2 [] (by rw [FU_e]; omega) g4 g5.ka (fun q hq => by simp at hq)
        rw [List.drop_zero] at q1 q3
        have q1 : f_X9_thin_50 K A (nI j) (nI n) FU m2 (nI (allP S).length) (0 : Int32) (0 : Int32) = f_X9_thin_50 K A (nI j) (nI n) (n3 + 1) m3 (nI (allP S).length) (nI (thinA n (allP S)).length) (nI (allP S).length) := q1
        have q3 : kaM m3 A (allP S) (thinA n (allP S)) (allP S).length := q3
        rw [q1]
        obtain ⟨t1, t2, t3⟩ := thinA_spec g7 n
        have fM : fr (fun a k => a = A ∧ k = 33) m3 (sI m3 A 33 (nI (thinA n (allP S)).length)) := fr_sI ⟨rfl, rfl⟩
        have k4 := KP.of (A := A) fM (fun a k z => by omega)
        have h4 := (g6.keep hok q4).keep hok k4
        obtain ⟨j', hj', hje, -, -, hm4⟩ := h4.at hok hs
        have : j' = j := ((nI_eq (by omega) (by omega)).mp hje).symm
        subst this
        show okM K m A (f_X9_thin_50B K A (nI j') (nI n) (f_X9_thin_50 K A (nI j') (nI n) n3) m3 (nI (allP S).length) (nI (thinA n (allP S)).length) (nI (allP S).length)) _ _
        unfold f_X9_thin_50B
        rw [if_pos ((nI_leI (by omega) (by omega)).mpr (Nat.le_refl _)), bd_e, h4.1.d0, bind_e, h4.1.g0 (by omega), bind_e, hm4.1]
        exact okM.from (((r2.trans g2).trans q4).trans k4) (laysTold hok h4 q3.al t1 (fun q hq => g8 q (t2 q hq)) hr.1 hr.2 hj')
      · rw [if_neg cs, if_neg cs]
        dsimp only
        rw [if_neg (by decide)]
        exact okM.kp hok h r2
theorem cut_e {l : List Pt} (hs : srt l) {f t : Int} (hft : f ≤ t) : l.take (ff f l) ++ l.drop (ff (t + 1) l) = l.filter (outS f t) := by
  have hmo := ff_mono (l := l) (f := f) (t := t + 1) (by omega)
  refine srt_ext ?_ (List.Pairwise.sublist List.filter_sublist hs) (fun q => ?_)
  · refine List.pairwise_append.mpr ⟨srt_take hs _, srt_drop hs _, fun x hx y hy => ?_⟩
    have h1 := (ff_spec f l).1 x hx
    have h2 := ff_rest hs (t + 1) y hy
    omega
  · rw [List.mem_append, List.mem_filter]
    unfold outS
    rw [decide_eq_true_eq]
    constructor
    · rintro (h | h)
      · exact ⟨List.mem_of_mem_take h, Or.inl ((ff_spec f l).1 q h)⟩
      · have := ff_rest hs (t + 1) q h
        exact ⟨List.mem_of_mem_drop h, Or.inr (by omega)⟩
    · rintro ⟨h1, h2⟩
      obtain ⟨k, hk⟩ := List.getElem?_of_mem h1
      rcases h2 with h2 | h2
      · have := (ff_iff hs f hk).mp h2
        exact Or.inl (List.mem_of_getElem? (i := k) (by rw [List.getElem?_take_of_lt this]; exact hk))
      · have a2 := ff_iff hs (t + 1) hk
        have hge : ff (t + 1) l ≤ k := by
          rcases Nat.lt_or_ge k (ff (t + 1) l) with c | c
          · have := a2.mpr c; omega
          · exact c
        exact Or.inr (List.mem_of_getElem? (i := k - ff (t + 1) l) (by rw [List.getElem?_drop, Nat.add_sub_cancel' hge]; exact hk))
theorem cuts_48 {K : Kn} {A gone : Nat} {x1 x2 x3 : Int32} {l : List Pt} : ∀ (f i : Nat) (m : Mem) (acc : List Pt), l.length - i < f → MS K m A → gI m A 33 = nI l.length → acc.length + gone = i → kaM m A l acc i → ∃ m' n', f_X9_cuts_48 K A x1 x2 x3 f m (nI gone) (nI i) = f_X9_cuts_48 K A x1 x2 x3 (n' + 1) m' (nI gone) (nI l.length) ∧ MS K m' A ∧ gI m' A 33 = nI l.length ∧ kaM m' A l (acc ++ l.drop i) l.length ∧ KP A m m'
  | 0, _, _, _, h, _, _, _, _ => absurd h (Nat.not_lt_zero _)
  | f + 1, i, m, acc, hf, h, h33, hg, hk => by
    have hk0 := hk
    obtain ⟨k1, k2, k3, k4, k5⟩ := hk
    by_cases c : i = l.length
    · subst c
      rw [List.drop_eq_nil_of_le (Nat.le_refl _), List.append_nil]
      exact ⟨m, f, rfl, h, h33, hk0, KP.refl A m⟩
    · have unf : f_X9_cuts_48 K A x1 x2 x3 (f + 1) m (nI gone) (nI i) = f_X9_cuts_48B K A x1 x2 x3 (f_X9_cuts_48 K A x1 x2 x3 f) m (nI gone) (nI i) := rfl
      obtain ⟨q, hq⟩ := get_some (l := l) (i := i) (by omega)
      obtain ⟨g1, g2⟩ := k5 i q (Nat.le_refl _) hq
      rw [unf]
      unfold f_X9_cuts_48B
      have s1 : ∀ v, MS K (sJ m (A + 19) acc.length v) A := fun v => h.on (fr_sJ (W := fun _ _ => True) trivial)
      have hn : acc.length < 12040 := by omega
      have hi : i < 12040 := by omega
      rw [h33, if_neg (fun z => by have := (nI_leI (by omega) (by omega)).mp z; omega), pk_sub (by omega), show i - gone = acc.length by omega, h.d30, bind_e, bind_e, h.g30 hi, bind_e, h.s30 hn, bind_e, (s1 _).d31, bind_e, bind_e, (s1 _).g31 hi, bind_e, (s1 _).s31 hn, bind_e, bd_e, nI_1]
      have fM : fr (fun a k => (a = A + 19 ∨ a = A + 20) ∧ k = acc.length) m (sJ (sJ m (A + 19) acc.length (gJ m (A + 19) i)) (A + 20) acc.length (gJ (sJ m (A + 19) acc.length (gJ m (A + 19) i)) (A + 20) i)) := (fr_sJ ⟨Or.inl rfl, rfl⟩).trans (fr_sJ ⟨Or.inr rfl, rfl⟩)
      obtain ⟨m2, n2, r1, r2, r3, r4, r5⟩ := cuts_48 (K := K) (x1 := x1) (x2 := x2) (x3 := x3) (gone := gone) f (i + 1) _ (acc ++ [q]) (by omega) (h.on fM) ((fM.I (fun z => by omega)).trans h33) (by rw [List.length_append]; show acc.length + 1 + gone = i + 1; omega) (kaM_push hk0 hq fM (by rw [gJ_sJ_n (Or.inl (by omega)), gJ_sJ_s]; exact g1) (by rw [gJ_sJ_s, gJ_sJ_n (Or.inl (by omega))]; exact g2))
      refine ⟨m2, n2, r1, r2, r3, ?_, (KP.of fM (fun a k z => by omega)).trans r5⟩
      rw [List.append_assoc] at r4
      rw [drop_get hq]
      exact r4
theorem mcuts_ok {K : Kn} {m : Mem} {A : Nat} {s : St} (hok : stOk s) (h : RM K m A s) (x f t : Int32) : okM K m A (F_X9_cuts K m A x f t) (nCuts s x f t).1 (nCuts s x f t).2 := by
  unfold F_X9_cuts f_X9_cuts nCuts
  rcases isSpan_ok hok h x f t with ⟨hs, hn⟩ | ⟨S, hs, hn⟩
  · rw [hn, hs, bind_e, if_pos rfl]; exact okM.same h
  · rw [hn, hs, bind_e]
    dsimp only
    by_cases c0 : t < f
    · rw [if_pos c0, if_pos rfl, if_neg (fun z => (nlt32.mpr z) c0)]; exact okM.same h
    rw [if_neg c0, if_neg (by decide), if_pos (nlt32.mp c0)]
    obtain ⟨j, hj, rfl, hsj, hS, hm⟩ := h.at hok hs
    have hr := hS.room
    have hft : f.toInt ≤ t.toInt := by rw [fa_lt] at c0; omega
    obtain ⟨m1, r1, r2⟩ := hasBrokenM hj hS h.1 hm
    rw [r1, bind_e]
    by_cases cs : sndL S.2.2.2 = true
    · rw [if_pos cs, if_pos cs, if_pos rfl]
      have h1 := h.keep hok r2
      have hm1 := hm.keep hS hj r2
      obtain ⟨m2, a, g1, g2, g3, g5, g6, g7, g8, ga⟩ := laysM h1.1 hj hS hm1 c0
      have g9 := (allP_spec hS).1
      have g10 := allP_le hS
      rw [g1, bind_e, g3.2.1, g3.2.2.1, pk_sub (by omega), Nat.add_sub_cancel_left, bd_e, bd_e]
      have hlen := g5.2.1
      have hk0 : kaM m2 A (allP S) ((allP S).take a) (a + (spanP S f.toInt t.toInt).length) := ⟨by rw [List.length_take]; omega, g8, hlen, fun k x hx => by
        have hkl := (List.getElem?_eq_some_iff.mp hx).1
        rw [List.length_take] at hkl
        rw [List.getElem?_take_of_lt (by omega)] at hx
        exact ⟨(g5.2.2 k x hx).1, (g5.2.2 k x hx).2.1⟩, fun k x _ hx => ⟨(g5.2.2 k x hx).1, (g5.2.2 k x hx).2.1⟩⟩
      obtain ⟨m3, n3, q1, q2, q5, q3, q4⟩ := cuts_48 (K := K) (x1 := nI j) (x2 := f) (x3 := t) (gone := (spanP S f.toInt t.toInt).length) FU _ m2 _ (by rw [FU_e]; omega) g3.1 g5.1 (by rw [List.length_take]; omega) hk0
      rw [q1]
      have hspl : (spanP S f.toInt t.toInt).length = ff (t.toInt + 1) (allP S) - ff f.toInt (allP S) := by
        have hmo := ff_mono (l := allP S) (f := f.toInt) (t := t.toInt + 1) (by omega)
        have hle := ff_le (t.toInt + 1) (allP S)
        unfold spanP
        rw [slice_e g9, List.length_take, List.length_drop]; omega
      have hmo := ff_mono (l := allP S) (f := f.toInt) (t := t.toInt + 1) (by omega)
      have hle := ff_le (t.toInt + 1) (allP S)
      have ecut : (allP S).take a ++ (allP S).drop (a + (spanP S f.toInt t.toInt).length) = (allP S).filter (outS f.toInt t.toInt) := by
        rw [hspl, ga, Nat.add_sub_cancel' hmo]
        exact cut_e g9 hft
      rw [ecut] at q3
      have elen : ((allP S).filter (outS f.toInt t.toInt)).length + (spanP S f.toInt t.toInt).length = (allP S).length := by
        rw [← ecut, List.length_append, List.length_take, List.length_drop]; omega
      have fM : fr (fun a k => a = A ∧ k = 33) m3 (sI m3 A 33 (nI ((allP S).filter (outS f.toInt t.toInt)).length)) := fr_sI ⟨rfl, rfl⟩
      have k4 := KP.of (A := A) fM (fun a k z => by omega)
      have kAll := ((r2.trans g2).trans q4).trans k4
      have h4 := h.keep hok kAll
      have hm4 := hm.keep hS hj kAll
      show okM K m A (f_X9_cuts_48B K A (nI j) f t (f_X9_cuts_48 K A (nI j) f t n3) m3 (nI (spanP S f.toInt t.toInt).length) (nI (allP S).length)) _ _
      unfold f_X9_cuts_48B
      rw [q5, if_pos ((nI_leI (by omega) (by omega)).mpr (Nat.le_refl _)), bd_e, pk_sub (by omega), show (allP S).length - (spanP S f.toInt t.toInt).length = ((allP S).filter (outS f.toInt t.toInt)).length by omega, h4.1.d0, bind_e, h4.1.g0 (by omega), bind_e, hm4.1]
      have ez : nI (allP S).length - nI ((allP S).filter (outS f.toInt t.toInt)).length = nI (spanP S f.toInt t.toInt).length := by
        rw [pk_sub (by omega), show (allP S).length - ((allP S).filter (outS f.toInt t.toInt)).length = (spanP S f.toInt t.toInt).length by omega]
      rw [ez]
      exact okM.from kAll (laysTold hok h4 q3.al (List.Pairwise.sublist List.filter_sublist g9) (fun q hq => g10 q (List.mem_filter.mp hq).1) hr.1 hr.2 hj)
    · rw [if_neg cs, if_neg cs]
      dsimp only
      rw [if_neg (by decide)]
      exact okM.kp hok h r2
