/-! ===== rows of points: nearest, least, greatest; rows that change ===== -/
def nearA (l : List Pt) (t : Nat) : Int32 := if ff t l = 0 then (match l[0]? with
    | none => -1
    | some q => nI q.1)
  else if ff t l = l.length then nI (pv l (ff t l)).1
  else match l[ff t l]? with
    | none => -1
    | some q => if nI q.1 - nI t < nI t - nI (pv l (ff t l)).1 then nI q.1 else nI (pv l (ff t l)).1
theorem closest_ok {K : Kn} {m : Mem} {x n : Nat} {l : List Pt} (h : ptR K m x n l) (hs : ∀ q ∈ l, q.1 ≤ 2000000000) {t : Nat} (ht : t ≤ 2000000000) : F_X5_closest K m x (nI t) = some (nearA l t) := by
  have hl := pt_len h
  have hff := ff_le t l
  have hfi := firstFrom_ok h hs (t := (t : Int)) (by omega) (by omega)
  rw [iZ_nat] at hfi
  obtain ⟨t1, t2, t3, t4, t5, t6, t7, t8, t9⟩ := id h
  unfold F_X5_closest f_X5_closest f_X5_closest_57 nearA
  rw [hfi, bind_e, t6]
  simp only [ldA_n t1 t4, bind_e]
  by_cases c0 : ff t l = 0
  · rw [if_pos (by rw [c0]; rfl), if_pos c0]
    by_cases c1 : l.length = 0
    · rw [if_pos (by rw [c1]; decide), List.getElem?_eq_none (by omega)]
    · obtain ⟨q, hq⟩ := get_some (l := l) (i := 0) (by omega)
      rw [if_neg (nI_nle (by omega) (by omega)), show (0 : Int32) = nI 0 from rfl, (h.at hq).1, bind_e, hq]
  · rw [if_neg (fun z => by rw [show (0 : Int32) = nI 0 from rfl, nI_eq (by omega) (by omega)] at z; exact c0 z), if_neg c0]
    have hp := (pt_pv h (i := ff t l) hff (by omega)).1
    by_cases c1 : ff t l = l.length
    · rw [if_pos (by rw [c1]), hp, bind_e, if_pos c1]
    · rw [if_neg (fun z => c1 ((nI_eq (by omega) (by omega)).mp z)), if_neg c1]
      obtain ⟨q, hq⟩ := get_some (l := l) (i := ff t l) (by omega)
      rw [hp, bind_e, (h.at hq).1, bind_e, hq]
      dsimp only
      by_cases c2 : nI q.1 - nI t < nI t - nI (pv l (ff t l)).1
      · rw [if_pos c2, if_pos c2, bind_e]
      · rw [if_neg c2, if_neg c2, bind_e]
def leastF (c : Int64) (_ : Nat) (q : Pt) : Int64 := if ordA q.2 < ordA c then q.2 else c
def greatF (c : Int64) (_ : Nat) (q : Pt) : Int64 := if ordA c < ordA q.2 then q.2 else c
def hd0 (l : List Pt) : Int64 := ((l[0]?).getD (0, 0)).2
def leastA (l : List Pt) : Int64 := foldI leastF (hd0 l) 1 (l.drop 1)
def greatA (l : List Pt) : Int64 := foldI greatF (hd0 l) 1 (l.drop 1)
theorem at0 {K : Kn} {m : Mem} {x n : Nat} {l : List Pt} (h : ptR K m x n l) (hne : 0 < l.length) : alJ K m (x + 2) 0 = some (hd0 l) ∧ alI K m (x + 1) 0 = some (nI ((l[0]?).getD (0, 0)).1) := by
  obtain ⟨q, hq⟩ := get_some (l := l) (i := 0) hne
  have := h.at hq
  unfold hd0
  rw [hq]
  exact ⟨this.2, this.1⟩
theorem leastOf_ok {K : Kn} {m : Mem} {x n : Nat} {l : List Pt} (h : ptR K m x n l) (hne : 0 < l.length) : F_X5_leastOf K m x = some (leastA l) := by
  have hl := pt_len h
  unfold F_X5_leastOf f_X5_leastOf
  rw [ldA_n h.2.1 h.2.2.2.2.1, bind_e, (at0 h hne).1, bind_e]
  refine scanLo l 1 (fun n (y : Int64) i => f_X5_leastOf_9 K m x n y (nI i)) leastF (fun y => y) (fun n y i q hi hq => ?_) (fun n y i hi hi2 => ?_) FU 1 (hd0 l) (Nat.le_refl _) (by omega) (by rw [FU_e]; omega)
  · obtain ⟨c1, e1, e2, e3, e4⟩ := pt_at h hq
    show f_X5_leastOf_9B K m x (f_X5_leastOf_9 K m x n) y (nI i) = _
    unfold f_X5_leastOf_9B f_X5_leastOf_41
    rw [if_neg c1]
    simp only [bd_e, nI_1, bind_e, e2, e4, order_ok]
    unfold leastF
    by_cases c : ordA q.2 < ordA y
    · rw [if_neg (fun z => absurd ((lg_cmp_ge _ _).mp z) (by rw [nle64]; exact c)), if_pos c]
    · rw [if_pos ((lg_cmp_ge _ _).mpr (nlt64.mp c)), if_neg c]
  · show f_X5_leastOf_9B K m x (f_X5_leastOf_9 K m x n) y (nI i) = _
    unfold f_X5_leastOf_9B
    rw [if_pos (pt_end h hi (by omega))]
theorem greatestOf_ok {K : Kn} {m : Mem} {x n : Nat} {l : List Pt} (h : ptR K m x n l) (hne : 0 < l.length) : F_X5_greatestOf K m x = some (greatA l) := by
  have hl := pt_len h
  unfold F_X5_greatestOf f_X5_greatestOf
  rw [ldA_n h.2.1 h.2.2.2.2.1, bind_e, (at0 h hne).1, bind_e]
  refine scanLo l 1 (fun n (y : Int64) i => f_X5_greatestOf_9 K m x n y (nI i)) greatF (fun y => y) (fun n y i q hi hq => ?_) (fun n y i hi hi2 => ?_) FU 1 (hd0 l) (Nat.le_refl _) (by omega) (by rw [FU_e]; omega)
  · obtain ⟨c1, e1, e2, e3, e4⟩ := pt_at h hq
    show f_X5_greatestOf_9B K m x (f_X5_greatestOf_9 K m x n) y (nI i) = _
    unfold f_X5_greatestOf_9B f_X5_greatestOf_41
    rw [if_neg c1]
    simp only [bd_e, nI_1, bind_e, e2, e4, order_ok]
    unfold greatF
    by_cases c : ordA y < ordA q.2
    · rw [if_neg (fun z => absurd ((lg_cmp_le _ _).mp z) (by rw [nle64]; exact c)), if_pos c]
    · rw [if_pos ((lg_cmp_le _ _).mpr (nlt64.mp c)), if_neg c]
  · show f_X5_greatestOf_9B K m x (f_X5_greatestOf_9 K m x n) y (nI i) = _
    unfold f_X5_greatestOf_9B
    rw [if_pos (pt_end h hi (by omega))]
/-- while a row is thinned in place: what was kept, what comes -/
def kpI (K : Kn) (m : Mem) (x n : Nat) (l acc : List Pt) (i : Nat) : Prop := ptS K m x n ∧ gI m x 2 = nI l.length ∧ l.length ≤ n ∧ acc.length ≤ i ∧ i ≤ l.length ∧ (∀ (j : Nat) (q : Pt), acc[j]? = some q → gI m (x + 1) j = nI q.1 ∧ gJ m (x + 2) j = q.2) ∧ ∀ (j : Nat) (q : Pt), i ≤ j → l[j]? = some q → gI m (x + 1) j = nI q.1 ∧ gJ m (x + 2) j = q.2
theorem ptR.kp {K : Kn} {m : Mem} {x n : Nat} {l : List Pt} (h : ptR K m x n l) : kpI K m x n l [] 0 := ⟨h.s, h.2.2.2.2.2.1, h.2.2.2.2.2.2.1, Nat.le_refl _, Nat.zero_le _, fun j q hq => by simp at hq, fun j q _ hq => h.2.2.2.2.2.2.2.2 j q hq⟩
theorem kpI.skip {K : Kn} {m : Mem} {x n : Nat} {l acc : List Pt} {i : Nat} (h : kpI K m x n l acc i) (hi : i < l.length) : kpI K m x n l acc (i + 1) := by
  obtain ⟨h1, h2, h3, h4, h5, h6, h7⟩ := h
  exact ⟨h1, h2, h3, by omega, by omega, h6, fun j q hj hq => h7 j q (by omega) hq⟩
theorem kpI.at {K : Kn} {m : Mem} {x n : Nat} {l acc : List Pt} {i : Nat} (h : kpI K m x n l acc i) {q : Pt} (hq : l[i]? = some q) : (¬ gI m x 2 ≤ nI i) ∧ ldA K m x 0 0 = some (x + 1) ∧ ldA K m x 1 1 = some (x + 2) ∧ alI K m (x + 1) (nI i) = some (nI q.1) ∧ alJ K m (x + 2) (nI i) = some q.2 := by
  obtain ⟨h1, h2, h3, h4, h5, h6, h7⟩ := h
  obtain ⟨s1, s2, s3, s4, s5, s6⟩ := h1
  have hl := (List.getElem?_eq_some_iff.mp hq).1
  have := h7 i q (Nat.le_refl _) hq
  refine ⟨?_, ldA_n s1 s4, ldA_n s2 s5, ?_, ?_⟩
  · rw [h2]; exact nI_ge hl (by omega)
  · rw [alI_n (lenK_of s4) (by omega) (by omega), this.1]
  · rw [alJ_n (lenK_of s5) (by omega) (by omega), this.2]
theorem kpI.keep {K : Kn} {m : Mem} {x n : Nat} {l acc : List Pt} {i : Nat} (h : kpI K m x n l acc i) {q : Pt} (hq : l[i]? = some q) : ∃ m', F_X5_keep K m x (nI acc.length) (nI i) = some m' ∧ kpI K m' x n l (acc ++ [q]) (i + 1) ∧ eqOn (off x 3) m m' ∧ szm m' = szm m := by
  obtain ⟨a1, a2, a3, a4, a5⟩ := h.at hq
  obtain ⟨h1, h2, h3, h4, h5, h6, h7⟩ := h
  obtain ⟨s1, s2, s3, s4, s5, s6⟩ := id h1
  have hl := (List.getElem?_eq_some_iff.mp hq).1
  unfold F_X5_keep f_X5_keep
  rw [a2, bind_e, bind_e, a4, bind_e, asI_n (lenK_of s4) (by omega) (by omega), bind_e, ldA_n (b := x + 2) (by exact s2) s5, bind_e, bind_e]
  have a5' : alJ K (sI m (x + 1) acc.length (nI q.1)) (x + 2) (nI i) = some q.2 := by
    rw [alJ_n (lenK_of s5) (by omega) (by omega), gJ_sI]
    rw [alJ_n (lenK_of s5) (by omega) (by omega)] at a5
    exact a5
  rw [a5', bind_e, asJ_n (lenK_of s5) (by omega) (by omega), bind_e]
  refine ⟨_, rfl, ⟨h1, ?_, h3, by simp; omega, by omega, fun j y hy => ?_, fun j y hj hy => ?_⟩, fun a ha k => ?_, rfl⟩
  · rw [gI_sJ, gI_sI_n (Or.inl (by omega)), h2]
  · rw [gI_sJ, gI_sIa, gJ_sJa, gJ_sI]
    rw [List.getElem?_append] at hy
    by_cases c : j < acc.length
    · rw [if_pos c] at hy
      rw [if_neg (by omega), if_neg (by omega)]
      exact h6 j y hy
    · rw [if_neg c] at hy
      have hi : j - acc.length = 0 := by
        have := (List.getElem?_eq_some_iff.mp hy).1
        simp at this; omega
      rw [hi] at hy
      simp at hy
      rw [if_pos (by omega), if_pos (by omega), ← hy]
      exact ⟨rfl, rfl⟩
  · rw [gI_sJ, gI_sI_n (Or.inr (by omega)), gJ_sJ_n (Or.inr (by omega)), gJ_sI]
    exact h7 j y (by omega) hy
  · have := off3 ha
    exact ⟨by rw [gI_sJ, gI_sI_n (Or.inl this.2.1)], by rw [gJ_sJ_n (Or.inl this.2.2), gJ_sI], rfl⟩
theorem kpI.done {K : Kn} {m : Mem} {x n : Nat} {l acc : List Pt} (h : kpI K m x n l acc l.length) : ptR K (sI m x 2 (nI acc.length)) x n acc := by
  obtain ⟨h1, h2, h3, h4, h5, h6, h7⟩ := h
  obtain ⟨s1, s2, s3, s4, s5, s6⟩ := h1
  exact ⟨s1, s2, s3, s4, s5, gI_sI_s, by omega, s6, fun j q hq => ⟨by rw [gI_sI_n (Or.inl (by omega))]; exact (h6 j q hq).1, (h6 j q hq).2⟩⟩
theorem kpI.fin {K : Kn} {m : Mem} {x n : Nat} {l acc : List Pt} {i : Nat} (h : kpI K m x n l acc i) (hi : l.length ≤ i) : gI m x 2 ≤ nI i := by
  obtain ⟨h1, h2, h3, h4, h5, h6, h7⟩ := h
  have := h1.2.2.2.2.2
  rw [h2]; exact nI_le hi (by omega)
theorem keepNumL {K : Kn} {x n : Nat} {l : List Pt} : ∀ (f i : Nat) (m : Mem) (acc : List Pt), l.length - i < f → kpI K m x n l acc i → ∃ m', f_X5_keepNumbers_4 K x f m (nI acc.length) (nI i) = some m' ∧ ptR K m' x n (acc ++ (l.drop i).filter (fun q => isN q.2)) ∧ eqOn (off x 3) m m' ∧ szm m' = szm m
  | 0, _, _, _, h, _ => absurd h (Nat.not_lt_zero _)
  | f + 1, i, m, acc, hf, h => by
    have unf : f_X5_keepNumbers_4 K x (f + 1) m (nI acc.length) (nI i) = f_X5_keepNumbers_4B K x (f_X5_keepNumbers_4 K x f) m (nI acc.length) (nI i) := rfl
    rw [unf]
    unfold f_X5_keepNumbers_4B f_X5_keepNumbers_33
    by_cases c : l.length ≤ i
    · have hi : i = l.length := by have := h.2.2.2.2.1; omega
      subst hi
      rw [if_pos (h.fin c), List.drop_eq_nil_of_le c]
      exact ⟨_, rfl, by simpa using h.done, eqOn_sI (fun z => (off3 z).1 rfl), rfl⟩
    · obtain ⟨q, hq⟩ := get_some (l := l) (i := i) (by omega)
      obtain ⟨a1, a2, a3, a4, a5⟩ := h.at hq
      rw [if_neg a1, a3, bind_e, a5, bind_e, isNumber_ok, bind_e]
      simp only [bd_e, nI_1, b01]
      rw [drop_get hq]
      cases hN : isN q.2 with
      | false =>
        rw [if_pos rfl, List.filter_cons_of_neg (by rw [hN]; decide)]
        exact keepNumL f (i + 1) m acc (by omega) (h.skip (by omega))
      | true =>
        rw [if_neg (by decide), List.filter_cons_of_pos (p := fun q : Pt => isN q.2) (a := q) hN]
        obtain ⟨m1, e1, e2, e3, e4⟩ := h.keep hq
        rw [e1, bind_e]
        obtain ⟨m2, r1, r2, r3, r4⟩ := keepNumL f (i + 1) m1 (acc ++ [q]) (by omega) e2
        rw [List.length_append] at r1
        rw [List.append_assoc] at r2
        exact ⟨m2, r1, r2, e3.trans r3, r4.trans e4⟩
theorem keepNumbers_ok {K : Kn} {m : Mem} {x n : Nat} {l : List Pt} (h : ptR K m x n l) : ∃ m', F_X5_keepNumbers K m x = some m' ∧ ptR K m' x n (l.filter (fun q => isN q.2)) ∧ eqOn (off x 3) m m' ∧ szm m' = szm m := by
  obtain ⟨m', e⟩ := keepNumL (l := l) FU 0 m [] (by rw [FU_e]; have := pt_len h; omega) h.kp
  exact ⟨m', e⟩
/-- points whose stamps are out of a span -/
def outS (from_ to_ : Int) (q : Pt) : Bool := decide ((q.1 : Int) < from_ ∨ to_ < (q.1 : Int))
theorem dropSpanL {K : Kn} {x n : Nat} {l : List Pt} {from_ to_ : Int32} (hs : ∀ q ∈ l, q.1 ≤ 2000000000) : ∀ (f i : Nat) (m : Mem) (acc : List Pt), l.length - i < f → kpI K m x n l acc i → ∃ m', f_X5_dropSpan_5 K x from_ to_ f m (nI acc.length) (nI i) = some (nI l.length - nI (acc ++ (l.drop i).filter (outS from_.toInt to_.toInt)).length, m') ∧ ptR K m' x n (acc ++ (l.drop i).filter (outS from_.toInt to_.toInt)) ∧ eqOn (off x 3) m m' ∧ szm m' = szm m
  | 0, _, _, _, h, _ => absurd h (Nat.not_lt_zero _)
  | f + 1, i, m, acc, hf, h => by
    have unf : f_X5_dropSpan_5 K x from_ to_ (f + 1) m (nI acc.length) (nI i) = f_X5_dropSpan_5B K x from_ to_ (f_X5_dropSpan_5 K x from_ to_ f) m (nI acc.length) (nI i) := rfl
    rw [unf]
    unfold f_X5_dropSpan_5B f_X5_dropSpan_36 f_X5_dropSpan_46
    by_cases c : l.length ≤ i
    · have hi : i = l.length := by have := h.2.2.2.2.1; omega
      subst hi
      rw [if_pos (h.fin c), List.drop_eq_nil_of_le c]
      unfold F_X5_shrink f_X5_shrink
      simp only [bd_e, bind_e]
      rw [h.2.1]
      rw [List.filter_nil, List.append_nil]
      exact ⟨_, rfl, h.done, eqOn_sI (fun z => (off3 z).1 rfl), rfl⟩
    · obtain ⟨q, hq⟩ := get_some (l := l) (i := i) (by omega)
      have hq2 := hs q (List.mem_of_getElem? hq)
      obtain ⟨a1, a2, a3, a4, a5⟩ := h.at hq
      have cf : nI q.1 < from_ ↔ (q.1 : Int) < from_.toInt := by rw [fa_lt, nI_toInt (by omega)]
      have ct : nI q.1 ≤ to_ ↔ ¬ to_.toInt < (q.1 : Int) := by rw [fa_le, nI_toInt (by omega)]; omega
      rw [if_neg a1]
      simp only [bd_e, nI_1, a2, a4, bind_e]
      rw [drop_get hq]
      have yes : outS from_.toInt to_.toInt q = true → ∃ m', ((F_X5_keep K m x (nI acc.length) (nI i)).bind fun q1 => f_X5_dropSpan_5 K x from_ to_ f q1 (nI (acc.length + 1)) (nI (i + 1))) = some (nI l.length - nI (acc ++ (q :: l.drop (i + 1)).filter (outS from_.toInt to_.toInt)).length, m') ∧ ptR K m' x n (acc ++ (q :: l.drop (i + 1)).filter (outS from_.toInt to_.toInt)) ∧ eqOn (off x 3) m m' ∧ szm m' = szm m := by
        intro ho
        rw [List.filter_cons_of_pos ho]
        obtain ⟨m1, e1, e2, e3, e4⟩ := h.keep hq
        rw [e1, bind_e]
        obtain ⟨m2, r1, r2, r3, r4⟩ := dropSpanL hs f (i + 1) m1 (acc ++ [q]) (by omega) e2
        rw [show (acc ++ [q]).length = acc.length + 1 by simp, List.append_assoc] at r1
        rw [List.append_assoc] at r2
        exact ⟨m2, r1, r2, e3.trans r3, r4.trans e4⟩
      by_cases c1 : (q.1 : Int) < from_.toInt
      · rw [if_pos (cf.mpr c1)]
        exact yes (decide_eq_true (Or.inl c1))
      · rw [if_neg (fun z => c1 (cf.mp z))]
        by_cases c2 : to_.toInt < (q.1 : Int)
        · rw [if_neg (fun z => ct.mp z c2)]
          exact yes (decide_eq_true (Or.inr c2))
        · rw [if_pos (ct.mpr c2), List.filter_cons_of_neg (by unfold outS; rw [decide_eq_true_eq]; omega)]
          exact dropSpanL hs f (i + 1) m acc (by omega) (h.skip (by omega))
theorem dropSpan_ok {K : Kn} {m : Mem} {x n : Nat} {l : List Pt} (h : ptR K m x n l) (hs : ∀ q ∈ l, q.1 ≤ 2000000000) (from_ to_ : Int32) : ∃ m', F_X5_dropSpan K m x from_ to_ = some (nI l.length - nI (l.filter (outS from_.toInt to_.toInt)).length, m') ∧ ptR K m' x n (l.filter (outS from_.toInt to_.toInt)) ∧ eqOn (off x 3) m m' ∧ szm m' = szm m := by
  obtain ⟨m', e⟩ := dropSpanL (l := l) (from_ := from_) (to_ := to_) hs FU 0 m [] (by rw [FU_e]; have := pt_len h; omega) h.kp
  exact ⟨m', e⟩
/-- of points whose stamps by a step are alike the first stays -/
def thinF (step : Nat) (acc : List Pt) (q : Pt) : List Pt := match acc.getLast? with
  | none => acc ++ [q]
  | some z => if q.1 / step = z.1 / step then acc else acc ++ [q]
theorem dropAlikeL {K : Kn} {x n step : Nat} {l : List Pt} (hst : 1 ≤ step) (hst2 : step ≤ 1000000) (hs : ∀ q ∈ l, q.1 ≤ 2000000000) : ∀ (f i : Nat) (m : Mem) (acc : List Pt), l.length - i < f → kpI K m x n l acc i → (∀ q ∈ acc, q.1 ≤ 2000000000) → ∃ m', f_X5_dropAlike_4 K x (nI step) f m (nI acc.length) (nI i) = some (nI l.length - nI ((l.drop i).foldl (thinF step) acc).length, m') ∧ ptR K m' x n ((l.drop i).foldl (thinF step) acc) ∧ eqOn (off x 3) m m' ∧ szm m' = szm m
  | 0, _, _, _, h, _, _ => absurd h (Nat.not_lt_zero _)
  | f + 1, i, m, acc, hf, h, hacc => by
    have unf : f_X5_dropAlike_4 K x (nI step) (f + 1) m (nI acc.length) (nI i) = f_X5_dropAlike_4B K x (nI step) (f_X5_dropAlike_4 K x (nI step) f) m (nI acc.length) (nI i) := rfl
    rw [unf]
    unfold f_X5_dropAlike_4B f_X5_dropAlike_37 f_X5_dropAlike_46
    have hn := h.1.2.2.2.2.2
    have hln := h.2.2.1
    have hal := h.2.2.2.1
    by_cases c : l.length ≤ i
    · have hi : i = l.length := by have := h.2.2.2.2.1; omega
      subst hi
      rw [if_pos (h.fin c), List.drop_eq_nil_of_le c]
      unfold F_X5_shrink f_X5_shrink
      simp only [bd_e, bind_e]
      rw [h.2.1]
      exact ⟨_, rfl, h.done, eqOn_sI (fun z => (off3 z).1 rfl), rfl⟩
    · obtain ⟨q, hq⟩ := get_some (l := l) (i := i) (by omega)
      have hq2 := hs q (List.mem_of_getElem? hq)
      obtain ⟨a1, a2, a3, a4, a5⟩ := h.at hq
      rw [if_neg a1]
      simp only [bd_e, nI_1, a2, a4, bind_e]
      rw [drop_get hq, List.foldl_cons]
      have yes : thinF step acc q = acc ++ [q] → ∃ m', ((F_X5_keep K m x (nI acc.length) (nI i)).bind fun q1 => f_X5_dropAlike_4 K x (nI step) f q1 (nI (acc.length + 1)) (nI (i + 1))) = some (nI l.length - nI ((l.drop (i + 1)).foldl (thinF step) (thinF step acc q)).length, m') ∧ ptR K m' x n ((l.drop (i + 1)).foldl (thinF step) (thinF step acc q)) ∧ eqOn (off x 3) m m' ∧ szm m' = szm m := by
        intro ho
        rw [ho]
        obtain ⟨m1, e1, e2, e3, e4⟩ := h.keep hq
        rw [e1, bind_e]
        obtain ⟨m2, r1, r2, r3, r4⟩ := dropAlikeL hst hst2 hs f (i + 1) m1 (acc ++ [q]) (by omega) e2 (fun z hz => by
          rcases List.mem_append.mp hz with hz | hz
          · exact hacc z hz
          · rw [List.mem_singleton.mp hz]; exact hq2)
        rw [show (acc ++ [q]).length = acc.length + 1 by simp] at r1
        exact ⟨m2, r1, r2, e3.trans r3, r4.trans e4⟩
      by_cases c0 : acc.length = 0
      · have : acc = [] := List.length_eq_zero_iff.mp c0
        rw [if_pos (by rw [c0]; rfl)]
        exact yes (by subst this; rfl)
      · rw [if_neg (fun z => by rw [show (0 : Int32) = nI 0 from rfl, nI_eq (by omega) (by omega)] at z; exact c0 z)]
        obtain ⟨z, hz⟩ := get_some (l := acc) (i := acc.length - 1) (by omega)
        have hz2 := hacc z (List.mem_of_getElem? hz)
        have hgl : acc.getLast? = some z := by rw [List.getLast?_eq_getElem?]; exact hz
        have hzm := (h.2.2.2.2.2.1 _ z hz).1
        have s4 := h.1.2.2.2.1
        have hstn : ¬ nI step = 0 := fun w => by rw [show (0 : Int32) = nI 0 from rfl, nI_eq (by omega) (by omega)] at w; omega
        rw [show nI acc.length - (1 : Int32) = nI (acc.length - 1) from pk_sub (b := 1) (by omega), alI_n (lenK_of s4) (by omega) (by omega), bind_e, gd_t hstn, gd_t hstn, hzm, pk_div (by omega) (by omega) (by omega), pk_div (by omega) (by omega) (by omega)]
        have hd1 : q.1 / step ≤ q.1 := Nat.div_le_self _ _
        have hd2 : z.1 / step ≤ z.1 := Nat.div_le_self _ _
        by_cases c1 : q.1 / step = z.1 / step
        · have e : thinF step acc q = acc := by unfold thinF; rw [hgl]; exact if_pos c1
          rw [if_pos (by rw [c1]), e]
          exact dropAlikeL hst hst2 hs f (i + 1) m acc (by omega) (h.skip (by omega)) hacc
        · rw [if_neg (fun w => c1 ((nI_eq (by omega) (by omega)).mp w))]
          exact yes (by unfold thinF; rw [hgl]; exact if_neg c1)
def thinA (step : Nat) (l : List Pt) : List Pt := l.foldl (thinF step) []
theorem dropAlike_ok {K : Kn} {m : Mem} {x n step : Nat} {l : List Pt} (h : ptR K m x n l) (hs : ∀ q ∈ l, q.1 ≤ 2000000000) (hst : 1 ≤ step) (hst2 : step ≤ 1000000) : ∃ m', F_X5_dropAlike K m x (nI step) = some (nI l.length - nI (thinA step l).length, m') ∧ ptR K m' x n (thinA step l) ∧ eqOn (off x 3) m m' ∧ szm m' = szm m := by
  obtain ⟨m', e⟩ := dropAlikeL (l := l) hst hst2 hs FU 0 m [] (by rw [FU_e]; have := pt_len h; omega) h.kp (fun q hq => by simp at hq)
  exact ⟨m', e⟩
