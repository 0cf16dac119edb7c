/-! ===== the reference: two series ===== -/
def otM (m : Mem) (A : Nat) (l : List Pt) : Prop := gI m A 40 = nI l.length ∧ l.length ≤ 12040 ∧ ∀ (i : Nat) (x : Pt), l[i]? = some x → gJ m (A + 22) i = lN x.1 ∧ gJ m (A + 23) i = x.2
theorem g2_15 {K : Kn} {A : Nat} {x1 x2 : Int32} {l : List Pt} {Q : Nat → Int32 → Prop} : ∀ (f i : Nat) (m : Mem), i ≤ l.length → l.length - i < f → MS K m A → alM m A l Q → gI m A 40 = nI l.length → (∀ (k : Nat) (x : Pt), k < i → l[k]? = some x → gJ m (A + 22) k = lN x.1 ∧ gJ m (A + 23) k = x.2) → ∃ m', f_X9_gathersTwo_15 K A x1 x2 f m (nI i) = ((F_X9_gathers K m' A x1).bind fun q => some q) ∧ otM m' A l ∧ KP A m m' ∧ MS K m' A
  | 0, _, _, _, h, _, _, _, _ => absurd h (Nat.not_lt_zero _)
  | f + 1, i, m, hi, hf, h, hl, h40, ho => by
    have hlen := hl.2.1
    have unf : f_X9_gathersTwo_15 K A x1 x2 (f + 1) m (nI i) = f_X9_gathersTwo_15B K A x1 x2 (f_X9_gathersTwo_15 K A x1 x2 f) m (nI i) := rfl
    rw [unf]
    unfold f_X9_gathersTwo_15B
    by_cases c : l.length ≤ i
    · rw [if_pos (al_end hl c (by omega))]
      exact ⟨m, rfl, ⟨h40, hlen, fun k x hx => ho k x (by have := (List.getElem?_eq_some_iff.mp hx).1; omega) hx⟩, KP.refl A m, h⟩
    · obtain ⟨q, hq⟩ := get_some (l := l) (i := i) (by omega)
      obtain ⟨a1, a2, a3, a4, a5⟩ := al_at h hl hq
      have s1 : MS K (sJ m (A + 22) i (lN q.1)) A := h.on (fr_sJ (W := fun _ _ => True) trivial)
      have f1 : fr (fun a k => a = A + 22) m (sJ m (A + 22) i (lN q.1)) := fr_sJ rfl
      have al1 := hl.on f1 (fun z => by omega) (fun a i _ _ z => by omega)
      obtain ⟨-, -, -, -, b5⟩ := al_at s1 al1 hq
      rw [if_neg a1, h.d38, bind_e, a2, bind_e, a4, bind_e, h.s38 (by omega), bind_e, s1.d39, bind_e, s1.d31, bind_e, b5, bind_e, s1.s39 (by omega), bind_e, bd_e, nI_1]
      have fM : fr (fun a k => (a = A + 22 ∨ a = A + 23) ∧ k = i) m (sJ (sJ m (A + 22) i (lN q.1)) (A + 23) i q.2) := (fr_sJ ⟨Or.inl rfl, rfl⟩).trans (fr_sJ ⟨Or.inr rfl, rfl⟩)
      obtain ⟨m', r1, r2, r3, r4⟩ := g2_15 (K := K) (x1 := x1) (x2 := x2) (l := l) (Q := Q) f (i + 1) _ (by omega) (by omega) (h.on fM) (hl.on fM (fun z => by omega) (fun a i _ _ z => by omega)) ((fM.I (fun z => by omega)).trans h40) (fun k x hk hx => by
        by_cases ck : k = i
        · rw [ck, hq] at hx
          cases hx
          rw [ck]
          refine ⟨?_, gJ_sJ_s⟩
          rw [gJ_sJ_n (Or.inl (by omega)), gJ_sJ_s]
        · exact ⟨(fM.J (fun z => by omega)).trans (ho k x (by omega) hx).1, (fM.J (fun z => by omega)).trans (ho k x (by omega) hx).2⟩)
      exact ⟨m', r1, r2, (KP.of fM (fun a k z => by omega)).trans r3, r4⟩
theorem gathersTwoM {K : Kn} {m : Mem} {A : Nat} {s : St} (hok : stOk s) (h : RM K m A s) {x y : Int32} {S T : Sr} (hs : sl s x = some S) (ht : sl s y = some T) : ∃ m', F_X9_gathersTwo K m A x y = some m' ∧ KP A m m' ∧ gaM K m' A S ∧ otM m' A (allP T) ∧ RM K m' A s ∧ srOk S ∧ srOk T := by
  unfold F_X9_gathersTwo f_X9_gathersTwo
  obtain ⟨m1, r1, r2, r3, ⟨g1, g2⟩, r5, hT, g3, g4⟩ := gathM hok h ht
  rw [r1, bind_e, bd_e, g2.1]
  have hlen := g2.2.1
  have f1 : fr (fun a k => a = A ∧ k = 40) m1 (sI m1 A 40 (nI (allP T).length)) := fr_sI ⟨rfl, rfl⟩
  have k1 := KP.of (A := A) f1 (fun a k z => by omega)
  obtain ⟨m2, q1, q2, q3, q4⟩ := g2_15 (K := K) (x1 := x) (x2 := y) FU 0 _ (Nat.zero_le _) (by rw [FU_e]; omega) (g1.on f1) (g2.on f1 (fun z => by omega) (fun a i _ _ z => by omega)) gI_sI_s (fun k x hk => absurd hk (Nat.not_lt_zero _))
  have q1 : f_X9_gathersTwo_15 K A x y FU (sI m1 A 40 (nI (allP T).length)) (0 : Int32) = _ := q1
  have kk := (r2.trans k1).trans q3
  have h2 := h.keep hok kk
  obtain ⟨m3, t1, t2, t3, t4, t5, hS, -, -⟩ := gathM hok h2 hs
  rw [q1, t1, bind_e]
  refine ⟨m3, rfl, kk.trans t2, t4, ⟨(t3.I (fun z => by unfold WA at z; omega)).trans q2.1, q2.2.1, fun i x hx => ⟨(t3.J (fun z => by unfold WA at z; omega)).trans (q2.2.2 i x hx).1, (t3.J (fun z => by unfold WA at z; omega)).trans (q2.2.2 i x hx).2⟩⟩, t5, hS, hT⟩
theorem areTwo_ok {K : Kn} {m : Mem} {A : Nat} {s : St} (hok : stOk s) (h : RM K m A s) (x y : Int32) : ((sl s x = none ∨ sl s y = none) ∧ F_X9_areTwo K m A x y = some 0) ∨ (∃ S T, sl s x = some S ∧ sl s y = some T ∧ F_X9_areTwo K m A x y = some 1) := by
  unfold F_X9_areTwo f_X9_areTwo f_X9_areTwo_20
  rcases isSeries_ok hok h x with ⟨hs, hn⟩ | ⟨S, hs, hn⟩
  · rw [hn, bind_e, if_pos rfl]; exact Or.inl ⟨Or.inl hs, rfl⟩
  · rw [hn, bind_e, if_neg (by decide)]
    rcases isSeries_ok hok h y with ⟨ht, hm⟩ | ⟨T, ht, hm⟩
    · rw [hm, bind_e, if_pos rfl]; exact Or.inl ⟨Or.inr ht, rfl⟩
    · rw [hm, bind_e, if_neg (by decide)]; exact Or.inr ⟨S, T, hs, ht, rfl⟩
theorem ot_at {K : Kn} {m : Mem} {A : Nat} {l : List Pt} (h : MS K m A) (hl : otM m A l) {i : Nat} {x : Pt} (hx : l[i]? = some x) : (¬ gI m A 40 ≤ nI i) ∧ ldA K m A 38 1 = some (A + 22) ∧ ldA K m A 39 1 = some (A + 23) ∧ alJ K m (A + 22) (nI i) = some (lN x.1) ∧ alJ K m (A + 23) (nI i) = some x.2 := by
  have hi := (List.getElem?_eq_some_iff.mp hx).1
  have hlen := hl.2.1
  obtain ⟨e1, e2⟩ := hl.2.2 i x hx
  refine ⟨?_, h.d38, h.d39, ?_, ?_⟩
  · rw [hl.1]
    exact fun z => by have := (nI_leI (by omega) (by omega)).mp z; omega
  · rw [h.g38 (by omega), e1]
  · rw [h.g39 (by omega), e2]
theorem ot_end {m : Mem} {A : Nat} {l : List Pt} (hl : otM m A l) {i : Nat} (h1 : l.length ≤ i) (h2 : i ≤ l.length + 1) : gI m A 40 ≤ nI i := by
  have hlen := hl.2.1
  rw [hl.1]
  exact (nI_leI (by omega) (by omega)).mpr h1
/-- the point of one that has a stamp -/
def fdA (l : List Pt) (t : Nat) : Option Pt := l.find? (fun a => a.1 == t)
theorem fdA_some {l : List Pt} (h : srt l) {y : Pt} (hy : y ∈ l) : fdA l y.1 = some y := by
  unfold fdA
  cases hf : l.find? (fun a => a.1 == y.1) with
  | none =>
    have := List.find?_eq_none.mp hf y hy
    simp at this
  | some z =>
    have h1 := List.mem_of_find?_eq_some hf
    have h2 := List.find?_some hf
    rw [srt_uniq h h1 hy (by simpa using h2)]
theorem fdA_none {l : List Pt} {t : Nat} (h : ∀ y ∈ l, y.1 ≠ t) : fdA l t = none := by
  unfold fdA
  rw [List.find?_eq_none]
  intro y hy
  have := h y hy
  simpa using this
def stB (w : Int32) (A : List Pt) (x : Int32) (q : Pt) : Int32 := match fdA A q.1 with
  | none => x
  | some a => if w = 0 ∨ a.2 = q.2 then x + 1 else x
theorem stB_cons {w : Int32} {a : Pt} {A C : List Pt} (h : ∀ q ∈ C, q.1 ≠ a.1) : ∀ x, C.foldl (stB w (a :: A)) x = C.foldl (stB w A) x := by
  induction C with
  | nil => intro x; rfl
  | cons q C ih =>
    intro x
    have e : stB w (a :: A) x q = stB w A x q := by
      unfold stB fdA
      rw [List.find?_cons_of_neg (by have := h q (by simp); simp; exact fun z => this z.symm)]
    show C.foldl (stB w (a :: A)) (stB w (a :: A) x q) = C.foldl (stB w A) (stB w A x q)
    rw [e]
    exact ih (fun y hy => h y (by simp [hy])) _
theorem stP_lt {a c : Pt} {A C : List Pt} (h : a.1 < c.1) : stP (a :: A) (c :: C) = some (a, true, false, false, A, c :: C) := if_pos h
theorem stP_gt {a c : Pt} {A C : List Pt} (h1 : ¬ a.1 < c.1) (h : c.1 < a.1) : stP (a :: A) (c :: C) = some (c, false, true, false, a :: A, C) := (if_neg h1).trans (if_pos h)
theorem stP_eq {a c : Pt} {A C : List Pt} (h1 : ¬ a.1 < c.1) (h : ¬ c.1 < a.1) : stP (a :: A) (c :: C) = some (a, true, true, decide (a.2 = c.2), A, C) := (if_neg h1).trans (if_neg h)
theorem both_rel (w : Int32) : ∀ (n : Nat) (A C : List Pt) (x : Int32), A.length + C.length ≤ n → srt A → srt C → (zipP n A C).foldl (bothF w) x = C.foldl (stB w A) x
  | 0, A, C, x, h, _, _ => by
    have h2 : C = [] := List.length_eq_zero_iff.mp (by omega)
    subst h2; rfl
  | n + 1, [], [], x, _, _, _ => rfl
  | n + 1, a :: A, [], x, h, hA, hC => by
    rw [zip_some (show stP (a :: A) [] = some (a, true, false, false, A, []) from rfl)]
    show (zipP n A []).foldl (bothF w) (bothF w x (a, true, false, false)) = x
    have e : bothF w x (a, true, false, false) = x := by unfold bothF; simp
    rw [e, both_rel w n A [] x (by simp at h ⊢; omega) (List.pairwise_cons.mp hA).2 hC]; rfl
  | n + 1, [], c :: C, x, h, hA, hC => by
    rw [zip_some (show stP [] (c :: C) = some (c, false, true, false, [], C) from rfl)]
    show (zipP n [] C).foldl (bothF w) (bothF w x (c, false, true, false)) = _
    have e : bothF w x (c, false, true, false) = x := by unfold bothF; simp
    rw [e, both_rel w n [] C x (by simp at h ⊢; omega) hA (List.pairwise_cons.mp hC).2]; rfl
  | n + 1, a :: A, c :: C, x, h, hA, hC => by
    have pA := List.pairwise_cons.mp hA
    have pC := List.pairwise_cons.mp hC
    rw [List.length_cons, List.length_cons] at h
    by_cases c1 : a.1 < c.1
    · rw [zip_some (stP_lt c1)]
      show (zipP n A (c :: C)).foldl (bothF w) (bothF w x (a, true, false, false)) = _
      have e : bothF w x (a, true, false, false) = x := by unfold bothF; simp
      rw [e, both_rel w n A (c :: C) x (by rw [List.length_cons]; omega) pA.2 hC, stB_cons (fun q hq => by
        rcases List.mem_cons.mp hq with rfl | hq
        · omega
        · have := pC.1 q hq; omega)]
    · by_cases c2 : c.1 < a.1
      · rw [zip_some (stP_gt c1 c2)]
        show (zipP n (a :: A) C).foldl (bothF w) (bothF w x (c, false, true, false)) = C.foldl (stB w (a :: A)) (stB w (a :: A) x c)
        have e : bothF w x (c, false, true, false) = x := by unfold bothF; simp
        have e2 : stB w (a :: A) x c = x := by
          unfold stB
          rw [fdA_none (fun y hy => by
            rcases List.mem_cons.mp hy with rfl | hy
            · omega
            · have := pA.1 y hy; omega)]
        rw [e, e2, both_rel w n (a :: A) C x (by rw [List.length_cons]; omega) hA pC.2]
      · have c3 : a.1 = c.1 := by omega
        rw [zip_some (stP_eq c1 c2)]
        show (zipP n A C).foldl (bothF w) (bothF w x (a, true, true, decide (a.2 = c.2))) = C.foldl (stB w (a :: A)) (stB w (a :: A) x c)
        have e2 : stB w (a :: A) x c = bothF w x (a, true, true, decide (a.2 = c.2)) := by
          unfold stB bothF
          rw [← c3, fdA_some hA (by simp)]
          dsimp only
          by_cases w0 : w = 0
          · rw [if_pos (Or.inl w0), if_pos w0]; rfl
          · rw [if_neg w0]
            by_cases d : a.2 = c.2
            · rw [if_pos (Or.inr d), if_pos (decide_eq_true d)]
            · rw [if_neg (fun z => z.elim w0 d), if_neg (by rw [decide_eq_false d]; decide)]
        rw [e2, both_rel w n A C _ (by omega) pA.2 pC.2, stB_cons (fun q hq => by have := pC.1 q hq; omega)]
theorem place_fd {K : Kn} {m : Mem} {A : Nat} {l : List Pt} {Q : Nat → Int32 → Prop} (h : MS K m A) (hl : alM m A l Q) (hs : srt l) (h2 : ∀ q ∈ l, q.1 ≤ 2000000000) {t : Nat} (ht : t ≤ 2000000000) : (∃ y k, fdA l t = some y ∧ l[k]? = some y ∧ k < 12040 ∧ F_X9_placeOf K m A (nI t) = some (nI k)) ∨ (fdA l t = none ∧ (∀ y ∈ l, y.1 ≠ t) ∧ F_X9_placeOf K m A (nI t) = some (-1)) := by
  have hti : (nI t).toInt = t := nI_toInt (by omega)
  rcases placeOf_ok h hl hs h2 (nI t) with ⟨y, p1, p2, p3, p4⟩ | ⟨p1, p2⟩
  · rw [hti] at p2
    have e : y.1 = t := by omega
    exact Or.inl ⟨y, _, by rw [← e]; exact fdA_some hs (List.mem_of_getElem? p1), p1, p4, p3⟩
  · rw [hti] at p1
    have hne : ∀ y ∈ l, y.1 ≠ t := fun y hy z => p1 y hy (by omega)
    exact Or.inr ⟨fdA_none hne, hne, p2⟩
theorem aBoth_none {s : St} {x y w : Int32} (hs : sl s x = none ∨ sl s y = none) : aBoth s x y w = -2 := by
  unfold aBoth
  rcases hs with hs | hs
  · rw [hs]
  · rw [hs]; cases sl s x <;> rfl
theorem aDiffer_none {s : St} {x y : Int32} (hs : sl s x = none ∨ sl s y = none) : aDiffer s x y = -2 := by
  unfold aDiffer
  rcases hs with hs | hs
  · rw [hs]
  · rw [hs]; cases sl s x <;> rfl
theorem mboth_ok {K : Kn} {m : Mem} {A : Nat} {s : St} (hok : stOk s) (h : RM K m A s) (x y w : Int32) : okM K m A (F_X9_both K m A x y w) (aBoth s x y w) s := by
  unfold F_X9_both f_X9_both
  rcases areTwo_ok hok h x y with ⟨hs, hn⟩ | ⟨S, T, hs, ht, hn⟩
  · rw [hn, bind_e, if_pos rfl, aBoth_none hs]; exact okM.same h
  · unfold aBoth
    rw [hn, hs, ht, bind_e, if_neg (by decide)]
    dsimp only
    rcases in_w 1 (by decide) w with ⟨hi, c1 | ⟨c1, c2⟩⟩ | ⟨hi, c1, c2⟩
    · have hi : F_X9_in w.toInt64 (0 : Int64) (1 : Int64) = some 0 := hi
      rw [hi, bind_e, if_pos rfl, if_pos c1]; exact okM.same h
    · have hi : F_X9_in w.toInt64 (0 : Int64) (1 : Int64) = some 0 := hi
      have c2 : ¬ w ≤ (1 : Int32) := c2
      rw [hi, bind_e, if_pos rfl, if_neg c1, if_neg c2]; exact okM.same h
    · have hi : F_X9_in w.toInt64 (0 : Int64) (1 : Int64) = some 1 := hi
      have c2 : w ≤ (1 : Int32) := c2
      rw [hi, bind_e, if_neg (by decide), if_neg c1, if_pos c2]
      obtain ⟨m1, r1, r2, ⟨g1, g2⟩, g3, g4, hS, hT⟩ := gathersTwoM hok h hs ht
      rw [r1, bind_e]
      have hlen := g3.2.1
      have sS := (allP_spec hS).1
      have sT := (allP_spec hT).1
      have := scanT 0 (allP T) (fun n (z : Int32) i => f_X9_both_34 K A x y w n m1 z (nI i)) (fun z _ q => stB w (allP S) z q) (fun _ => True) (fun z => some (z, m1)) (fun _ _ _ _ _ _ => trivial) (fun n z i q h1 hq _ => ?_) (fun n z i hi hi2 _ => ?_) FU 0 0 (Nat.le_refl _) (by omega) (by rw [FU_e]; omega) trivial
      · have e : f_X9_both_34 K A x y w FU m1 (0 : Int32) (0 : Int32) = _ := this
        unfold zipA
        rw [e, List.drop_zero, foldI_foldl, both_rel w _ _ _ 0 (Nat.le_refl _) sS sT]
        exact okM.kp hok h r2
      · obtain ⟨a1, a2, a3, a4, a5⟩ := ot_at g1 g3 hq
        have hq2 := allP_le hT q (List.mem_of_getElem? hq)
        show f_X9_both_34B K A x y w (f_X9_both_34 K A x y w n) m1 z (nI i) = _
        unfold f_X9_both_34B f_X9_both_87 f_X9_both_91 f_X9_both_92 stB
        rw [if_neg a1, a2, bind_e, a4, bind_e, l2i_lN]
        rcases place_fd g1 g2 sS (allP_le hS) hq2 with ⟨v, k, p1, p2, p3, p4⟩ | ⟨p1, p2, p3⟩
        · obtain ⟨-, -, b3, -, b5⟩ := al_at g1 g2 p2
          rw [p4, bind_e, if_neg (nI_ne_m1 (by omega)), p1]
          simp only [b3, b5, a3, a5, bind_e, bd_e, nI_1, add_0]
          by_cases w0 : w = 0
          · rw [if_pos w0, if_pos (Or.inl w0)]
          · rw [if_neg w0]
            by_cases d : v.2 = q.2
            · rw [if_pos ((lg_cmp_eq _ _).mpr d), if_pos (Or.inr d)]
            · rw [if_neg (fun u => d ((lg_cmp_eq _ _).mp u)), if_neg (fun u => u.elim w0 d)]
        · rw [p3, bind_e, if_pos rfl, p1, bd_e, bd_e, nI_1, add_0]
      · show f_X9_both_34B K A x y w (f_X9_both_34 K A x y w n) m1 z (nI i) = _
        unfold f_X9_both_34B
        rw [if_pos (ot_end g3 hi hi2)]
theorem min_long {a b : Nat} (ha : a ≤ 2000000000) (hb : b ≤ 2000000000) : F_J9_min_f86c9 (lN a) (lN b) = some (lN (min a b)) := by
  unfold F_J9_min_f86c9 f_J9_min_f86c9
  have c : lg_cmp (lN a) (lN b) ≤ 0 ↔ a ≤ b := by rw [← lZ_nat, ← lZ_nat, lgZ_le (by omega) (by omega) (by omega) (by omega)]; omega
  have c' : 0 < lg_cmp (lN a) (lN b) ↔ b < a := by rw [lg_cmp_gt, fa_lt64, pf_lI (by omega), pf_lI (by omega)]; omega
  first
    | (by_cases d : a ≤ b
       · rw [if_pos (c.mpr d), show min a b = a by omega]
       · rw [if_neg (fun z => d (c.mp z)), show min a b = b by omega])
    | (by_cases d : b < a
       · rw [if_pos (c'.mpr d), show min a b = b by omega]
       · rw [if_neg (fun z => d (c'.mp z)), show min a b = a by omega])
theorem differ_20 {K : Kn} {m : Mem} {A : Nat} {x1 x2 : Int32} {L R : List Pt} {Q : Nat → Int32 → Prop} (h : MS K m A) (hl : alM m A L Q) (hr : otM m A R) (hL : ∀ q ∈ L, q.1 ≤ 2000000000) (hR : ∀ q ∈ R, q.1 ≤ 2000000000) : ∀ (f i n : Nat), i ≤ L.length → i ≤ R.length → L.length - i < f → (L.drop i).length + (R.drop i).length ≤ n → f_X9_differ_20 K A x1 x2 f m (nI i) = some (diffE (zipP n (L.drop i) (R.drop i)), m)
  | 0, _, _, _, _, h, _ => absurd h (Nat.not_lt_zero _)
  | f + 1, i, n, hi, hi2, hf, hn => by
    have hlenL := hl.2.1
    have hlenR := hr.2.1
    have unf : f_X9_differ_20 K A x1 x2 (f + 1) m (nI i) = f_X9_differ_20B K A x1 x2 (f_X9_differ_20 K A x1 x2 f) m (nI i) := rfl
    rw [unf]
    unfold f_X9_differ_20B f_X9_differ_74 f_X9_differ_90
    have iL : nI i = nI L.length ↔ i = L.length := nI_eq (by omega) (by omega)
    have iR : nI i = nI R.length ↔ i = R.length := nI_eq (by omega) (by omega)
    have pL : nI L.length ≤ nI i ↔ L.length ≤ i := nI_leI (by omega) (by omega)
    have pR : nI R.length ≤ nI i ↔ R.length ≤ i := nI_leI (by omega) (by omega)
    rw [hl.1, hr.1]
    by_cases cL : L.length ≤ i
    · have eL : i = L.length := by omega
      rw [if_pos (pL.mpr cL), if_pos (iL.mpr eL), if_pos (pL.mpr cL), List.drop_eq_nil_of_le cL]
      by_cases cR : R.length ≤ i
      · rw [if_pos (pR.mpr cR), List.drop_eq_nil_of_le cR, zip_none rfl]; rfl
      · obtain ⟨c, hc⟩ := get_some (l := R) (i := i) (by omega)
        obtain ⟨-, a2, -, a4, -⟩ := ot_at h hr hc
        rw [if_neg (fun z => cR (pR.mp z)), a2, bind_e, a4, bind_e, l2i_lN, drop_get hc]
        rw [drop_get hc, List.length_cons] at hn
        cases n with
        | zero => omega
        | succ n =>
          rw [zip_some (show stP [] (c :: R.drop (i + 1)) = some (c, false, true, false, [], R.drop (i + 1)) from rfl)]; rfl
    · obtain ⟨a, ha⟩ := get_some (l := L) (i := i) (by omega)
      obtain ⟨-, b2, b3, b4, b5⟩ := al_at h hl ha
      have ha2 := hL a (List.mem_of_getElem? ha)
      simp only [if_neg (show ¬ nI L.length ≤ nI i from fun z => cL (pL.mp z)), if_neg (show ¬ nI i = nI L.length from fun z => cL (by have := iL.mp z; omega))]
      by_cases cR : R.length ≤ i
      · have eR : i = R.length := by omega
        rw [if_pos (pR.mpr cR), if_pos (iR.mpr eR), b2, bind_e, b4, bind_e, l2i_lN, drop_get ha, List.drop_eq_nil_of_le cR]
        rw [drop_get ha, List.length_cons] at hn
        cases n with
        | zero => omega
        | succ n =>
          rw [zip_some (show stP (a :: L.drop (i + 1)) [] = some (a, true, false, false, L.drop (i + 1), []) from rfl)]; rfl
      · obtain ⟨c, hc⟩ := get_some (l := R) (i := i) (by omega)
        obtain ⟨-, a2, a3, a4, a5⟩ := ot_at h hr hc
        have hc2 := hR c (List.mem_of_getElem? hc)
        simp only [if_neg (show ¬ nI R.length ≤ nI i from fun z => cR (pR.mp z)), if_neg (show ¬ nI i = nI R.length from fun z => cR (by have := iR.mp z; omega))]
        simp only [b2, b3, b4, b5, a2, a3, a4, a5, bind_e, bd_e, nI_1]
        rw [min_long ha2 hc2]
        simp only [bind_e, l2i_lN]
        have ie : lg_cmp (lN a.1) (lN c.1) = 0 ↔ a.1 = c.1 := lgN (by omega) (by omega)
        rw [drop_get ha, drop_get hc]
        rw [drop_get ha, drop_get hc, List.length_cons, List.length_cons] at hn
        cases n with
        | zero => omega
        | succ n =>
          by_cases d1 : a.1 = c.1
          · rw [if_pos (ie.mpr d1), zip_some (stP_eq (show ¬ a.1 < c.1 by omega) (show ¬ c.1 < a.1 by omega))]
            by_cases d2 : a.2 = c.2
            · rw [if_pos ((lg_cmp_eq _ _).mpr d2)]
              show _ = some (if decide (a.2 = c.2) = true then diffE (zipP n (L.drop (i + 1)) (R.drop (i + 1))) else nI a.1, m)
              rw [if_pos (decide_eq_true d2)]
              exact differ_20 h hl hr hL hR f (i + 1) n (by omega) (by omega) (by omega) (by omega)
            · rw [if_neg (fun z => d2 ((lg_cmp_eq _ _).mp z))]
              show _ = some (if decide (a.2 = c.2) = true then diffE (zipP n (L.drop (i + 1)) (R.drop (i + 1))) else nI a.1, m)
              rw [if_neg (by rw [decide_eq_false d2]; decide), show min a.1 c.1 = a.1 by omega]
          · rw [if_neg (fun z => d1 (ie.mp z))]
            by_cases d2 : a.1 < c.1
            · rw [zip_some (stP_lt d2), show min a.1 c.1 = a.1 by omega]; rfl
            · rw [zip_some (stP_gt d2 (show c.1 < a.1 by omega)), show min a.1 c.1 = c.1 by omega]; rfl
theorem mdiffer_ok {K : Kn} {m : Mem} {A : Nat} {s : St} (hok : stOk s) (h : RM K m A s) (x y : Int32) : okM K m A (F_X9_differ K m A x y) (aDiffer s x y) s := by
  unfold F_X9_differ f_X9_differ
  rcases areTwo_ok hok h x y with ⟨hs, hn⟩ | ⟨S, T, hs, ht, hn⟩
  · rw [hn, bind_e, if_pos rfl, aDiffer_none hs]; exact okM.same h
  · unfold aDiffer
    rw [hn, hs, ht, bind_e, if_neg (by decide)]
    obtain ⟨m1, r1, r2, ⟨g1, g2⟩, g3, g4, hS, hT⟩ := gathersTwoM hok h hs ht
    rw [r1, bind_e]
    have hlen := g2.2.1
    have := differ_20 (x1 := x) (x2 := y) g1 g2 g3 (allP_le hS) (allP_le hT) FU 0 ((allP S).length + (allP T).length) (Nat.zero_le _) (Nat.zero_le _) (by rw [FU_e]; omega) (by rw [List.drop_zero, List.drop_zero]; omega)
    rw [List.drop_zero, List.drop_zero] at this
    have e : f_X9_differ_20 K A x y FU m1 (0 : Int32) = _ := this
    rw [e]
    exact okM.kp hok h r2
