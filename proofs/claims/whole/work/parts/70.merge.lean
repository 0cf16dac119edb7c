/-! ===== points gathered: the pure side ===== -/
abbrev Gs : Type := Nat × List Pt
/-- late ones ahead of a stamp go out -/
def gpush (L : List Pt) (T : Int) (s : Gs) : Gs := (s.1 + ff T (L.drop s.1), s.2 ++ (L.drop s.1).take (ff T (L.drop s.1)))
def gstep (L : List Pt) (from_ to_ : Int) (s : Gs) (x : Pt) : Gs := if (x.1 : Int) < from_ ∨ to_ < (x.1 : Int) then s else
  if (L[(gpush L x.1 s).1]?).map Prod.fst = some x.1 then gpush L x.1 s else ((gpush L x.1 s).1, (gpush L x.1 s).2 ++ [x])
def srt (l : List Pt) : Prop := l.Pairwise (fun x y => x.1 < y.1)
theorem srt_lt {l : List Pt} (h : srt l) {i j : Nat} {x y : Pt} (hi : l[i]? = some x) (hj : l[j]? = some y) (hij : i < j) : x.1 < y.1 := by
  obtain ⟨h1, h2⟩ := List.getElem?_eq_some_iff.mp hi
  obtain ⟨h3, h4⟩ := List.getElem?_eq_some_iff.mp hj
  have := (List.pairwise_iff_getElem.mp h) i j h1 h3 hij
  rw [h2, h4] at this
  exact this
theorem ff_spec (T : Int) : ∀ l : List Pt, (∀ q ∈ l.take (ff T l), (q.1 : Int) < T) ∧ (∀ q, l[ff T l]? = some q → T ≤ (q.1 : Int))
  | [] => ⟨fun q hq => by simp at hq, fun q hq => by simp at hq⟩
  | x :: l => by
    unfold ff
    split
    · rename_i h
      obtain ⟨h1, h2⟩ := ff_spec T l
      refine ⟨fun q hq => ?_, fun q hq => ?_⟩
      · rw [List.take_succ_cons] at hq
        rcases List.mem_cons.mp hq with rfl | hq
        · exact h
        · exact h1 q hq
      · rw [List.getElem?_cons_succ] at hq; exact h2 q hq
    · rename_i h
      refine ⟨fun q hq => by simp at hq, fun q hq => ?_⟩
      simp at hq; subst hq; omega
theorem ff_rest {l : List Pt} (h : srt l) (T : Int) : ∀ q ∈ l.drop (ff T l), T ≤ (q.1 : Int) := by
  intro q hq
  obtain ⟨i, hi⟩ := List.getElem?_of_mem hq
  rw [List.getElem?_drop] at hi
  by_cases c : i = 0
  · subst c; exact (ff_spec T l).2 q hi
  · have hl := (List.getElem?_eq_some_iff.mp hi).1
    obtain ⟨y, hy⟩ := get_some (l := l) (i := ff T l) (by omega)
    have := srt_lt h hy hi (by omega)
    have := (ff_spec T l).2 y hy
    omega
theorem srt_drop {l : List Pt} (h : srt l) (n : Nat) : srt (l.drop n) := List.Pairwise.sublist (List.drop_sublist n l) h
theorem srt_take {l : List Pt} (h : srt l) (n : Nat) : srt (l.take n) := List.Pairwise.sublist (List.take_sublist n l) h
theorem mem_take_drop {l : List Pt} {n : Nat} {q : Pt} : q ∈ l ↔ q ∈ l.take n ∨ q ∈ l.drop n := by
  conv => lhs; rw [← List.take_append_drop n l]
  exact List.mem_append
theorem srt_td {l : List Pt} (h : srt l) {n : Nat} {x y : Pt} (hx : x ∈ l.take n) (hy : y ∈ l.drop n) : x.1 < y.1 := by
  have : srt (l.take n ++ l.drop n) := by rw [List.take_append_drop]; exact h
  exact (List.pairwise_append.mp this).2.2 x hx y hy
/-- the state while points go by; n0: late ones that are below the span -/
def ginv (L : List Pt) (n0 : Nat) (s : Gs) (done : List Pt) : Prop := n0 ≤ s.1 ∧ s.1 ≤ L.length ∧ srt s.2 ∧ (∀ q, q ∈ s.2 ↔ q ∈ (L.take s.1).drop n0 ∨ (q ∈ done ∧ ∀ q' ∈ L, q'.1 ≠ q.1)) ∧ (∀ q ∈ L.drop s.1, ∀ d ∈ done, d.1 ≤ q.1) ∧ (∀ q ∈ (L.take s.1).drop n0, ∃ d ∈ done, q.1 < d.1)
theorem take_add_drop (L : List Pt) {a n0 k : Nat} (h : n0 ≤ a) (hk : a ≤ L.length) : (L.take (a + k)).drop n0 = (L.take a).drop n0 ++ (L.drop a).take k := by
  rw [List.take_add, List.drop_append_of_le_length (by rw [List.length_take]; omega)]
theorem gpush_inv {L : List Pt} (hL : srt L) {n0 : Nat} {s : Gs} {done : List Pt} (h : ginv L n0 s done) (T : Int) : n0 ≤ (gpush L T s).1 ∧ (gpush L T s).1 ≤ L.length ∧ srt (gpush L T s).2 ∧ (∀ q, q ∈ (gpush L T s).2 ↔ q ∈ (L.take (gpush L T s).1).drop n0 ∨ (q ∈ done ∧ ∀ q' ∈ L, q'.1 ≠ q.1)) ∧ (∀ q ∈ L.drop (gpush L T s).1, T ≤ (q.1 : Int) ∧ ∀ d ∈ done, d.1 ≤ q.1) ∧ (∀ q ∈ (L.take (gpush L T s).1).drop n0, (q.1 : Int) < T ∨ ∃ d ∈ done, q.1 < d.1) := by
  obtain ⟨h1, h2, h3, h4, h5, h6⟩ := h
  have hff := ff_le T (L.drop s.1)
  rw [List.length_drop] at hff
  obtain ⟨f1, f2⟩ := ff_spec T (L.drop s.1)
  have f3 := ff_rest (srt_drop hL s.1) T
  have e1 : (gpush L T s).1 = s.1 + ff T (L.drop s.1) := rfl
  have e2 : (gpush L T s).2 = s.2 ++ (L.drop s.1).take (ff T (L.drop s.1)) := rfl
  rw [e1, e2, take_add_drop L h1 h2]
  refine ⟨by omega, by omega, ?_, fun q => ?_, fun q hq => ?_, fun q hq => ?_⟩
  · refine List.pairwise_append.mpr ⟨h3, srt_take (srt_drop hL _) _, fun x hx y hy => ?_⟩
    have hyL : y ∈ L.drop s.1 := List.mem_of_mem_take hy
    rcases (h4 x).mp hx with hx | ⟨hx, hx2⟩
    · exact srt_td hL (List.mem_of_mem_drop hx) hyL
    · have := h5 y hyL x hx
      have := hx2 y (List.mem_of_mem_drop hyL)
      omega
  · rw [List.mem_append, List.mem_append, h4]
    constructor
    · rintro ((h | h) | h)
      · exact Or.inl (Or.inl h)
      · exact Or.inr h
      · exact Or.inl (Or.inr h)
    · rintro ((h | h) | h)
      · exact Or.inl (Or.inl h)
      · exact Or.inr h
      · exact Or.inl (Or.inr h)
  · rw [← List.drop_drop] at hq
    exact ⟨f3 q hq, h5 q (List.mem_of_mem_drop hq)⟩
  · rcases List.mem_append.mp hq with hq | hq
    · exact Or.inr (h6 q hq)
    · exact Or.inl (f1 q hq)
theorem gstep_inv {L : List Pt} (hL : srt L) {n0 : Nat} {s : Gs} {done : List Pt} {from_ to_ : Int} (h0 : ∀ q ∈ L.take n0, (q.1 : Int) < from_) (h : ginv L n0 s done) {x : Pt} (hx : ∀ d ∈ done, d.1 < x.1) : ginv L n0 (gstep L from_ to_ s x) (if (x.1 : Int) < from_ ∨ to_ < (x.1 : Int) then done else done ++ [x]) := by
  unfold gstep
  by_cases c : (x.1 : Int) < from_ ∨ to_ < (x.1 : Int)
  · rw [if_pos c, if_pos c]; exact h
  · rw [if_neg c, if_neg c]
    obtain ⟨g1, g2, g3, g4, g5, g6⟩ := gpush_inv hL h x.1
    have hd : ∀ q ∈ (L.take (gpush L x.1 s).1).drop n0, q.1 < x.1 := fun q hq => by
      rcases g6 q hq with h | ⟨d, hd, hd2⟩
      · omega
      · have := hx d hd; omega
    have g5' : ∀ q ∈ L.drop (gpush L x.1 s).1, ∀ d ∈ done ++ [x], d.1 ≤ q.1 := fun q hq d hd => by
      rcases List.mem_append.mp hd with hd | hd
      · exact (g5 q hq).2 d hd
      · rw [List.mem_singleton.mp hd]; have := (g5 q hq).1; omega
    have g6' : ∀ q ∈ (L.take (gpush L x.1 s).1).drop n0, ∃ d ∈ done ++ [x], q.1 < d.1 := fun q hq => ⟨x, by simp, hd q hq⟩
    by_cases c2 : (L[(gpush L x.1 s).1]?).map Prod.fst = some x.1
    · rw [if_pos c2]
      refine ⟨g1, g2, g3, fun q => ?_, g5', g6'⟩
      rw [g4]
      constructor
      · rintro (h | ⟨h1, h2⟩)
        · exact Or.inl h
        · exact Or.inr ⟨List.mem_append_left _ h1, h2⟩
      · rintro (h | ⟨h1, h2⟩)
        · exact Or.inl h
        · rcases List.mem_append.mp h1 with h1 | h1
          · exact Or.inr ⟨h1, h2⟩
          · rw [List.mem_singleton.mp h1] at h2
            obtain ⟨y, hy, hy2⟩ := Option.map_eq_some_iff.mp c2
            exact absurd hy2 (h2 y (List.mem_of_getElem? hy))
    · rw [if_neg c2]
      have hno : ∀ q' ∈ L, q'.1 ≠ x.1 := by
        intro q' hq' he
        rcases (mem_take_drop (n := (gpush L x.1 s).1)).mp hq' with hq' | hq'
        · rcases (mem_take_drop (n := n0)).mp hq' with hq2 | hq2
          · have : q' ∈ L.take n0 := by
              rw [List.take_take] at hq2
              rw [Nat.min_eq_left g1] at hq2; exact hq2
            have := h0 q' this
            omega
          · have := hd q' hq2; omega
        · obtain ⟨i, hi⟩ := List.getElem?_of_mem hq'
          rw [List.getElem?_drop] at hi
          by_cases ci : i = 0
          · subst ci
            rw [Nat.add_zero] at hi
            rw [hi] at c2
            simp at c2; omega
          · have hl := (List.getElem?_eq_some_iff.mp hi).1
            obtain ⟨y, hy⟩ := get_some (l := L) (i := (gpush L x.1 s).1) (by omega)
            have := srt_lt hL hy hi (by omega)
            have := (g5 y (List.mem_of_getElem? (i := 0) (by rw [List.getElem?_drop]; exact hy))).1
            omega
      refine ⟨g1, g2, ?_, fun q => ?_, g5', g6'⟩
      · refine List.pairwise_append.mpr ⟨g3, List.pairwise_singleton _ _, fun y hy z hz => ?_⟩
        rw [List.mem_singleton.mp hz]
        rcases (g4 y).mp hy with hy | ⟨hy, -⟩
        · exact hd y hy
        · exact hx y hy
      · rw [List.mem_append, g4, List.mem_singleton, List.mem_append, List.mem_singleton]
        constructor
        · rintro ((h | ⟨h1, h2⟩) | h)
          · exact Or.inl h
          · exact Or.inr ⟨Or.inl h1, h2⟩
          · exact Or.inr ⟨Or.inr h, by rw [h]; exact hno⟩
        · rintro (h | ⟨h1 | h1, h2⟩)
          · exact Or.inl (Or.inl h)
          · exact Or.inl (Or.inr ⟨h1, h2⟩)
          · exact Or.inr h1
theorem gfold_inv {L : List Pt} (hL : srt L) {n0 : Nat} {from_ to_ : Int} (h0 : ∀ q ∈ L.take n0, (q.1 : Int) < from_) : ∀ (P : List Pt) (s : Gs) (done : List Pt), ginv L n0 s done → srt P → (∀ d ∈ done, ∀ x ∈ P, d.1 < x.1) → ginv L n0 (P.foldl (gstep L from_ to_) s) (done ++ P.filter (fun x => decide (¬ ((x.1 : Int) < from_ ∨ to_ < (x.1 : Int)))))
  | [], s, done, h, _, _ => by simpa using h
  | x :: P, s, done, h, hP, hd => by
    have hp := List.pairwise_cons.mp hP
    have h1 := gstep_inv (from_ := from_) (to_ := to_) hL h0 h (fun d hd' => hd d hd' x (by simp))
    have h2 := gfold_inv (to_ := to_) hL h0 P _ _ h1 hp.2 (fun d hd' y hy => by
      by_cases c : (x.1 : Int) < from_ ∨ to_ < (x.1 : Int)
      · rw [if_pos c] at hd'; exact hd d hd' y (by simp [hy])
      · rw [if_neg c] at hd'
        rcases List.mem_append.mp hd' with hd' | hd'
        · exact hd d hd' y (by simp [hy])
        · rw [List.mem_singleton.mp hd']; exact hp.1 y hy)
    rw [List.foldl_cons]
    by_cases c : (x.1 : Int) < from_ ∨ to_ < (x.1 : Int)
    · rw [if_pos c] at h2
      rw [List.filter_cons_of_neg (by rw [decide_eq_true_eq]; exact fun z => z c)]
      exact h2
    · rw [if_neg c, List.append_assoc] at h2
      rw [List.filter_cons_of_pos (by rw [decide_eq_true_eq]; exact c)]
      exact h2
/-- the points of a span -/
def gthA (L P : List Pt) (from_ to_ : Int) : List Pt := (gpush L (to_ + 1) (P.foldl (gstep L from_ to_) (ff from_ L, []))).2
theorem gthA_spec {L P : List Pt} (hL : srt L) (hP : srt P) (from_ to_ : Int) : srt (gthA L P from_ to_) ∧ ∀ q, q ∈ gthA L P from_ to_ ↔ (from_ ≤ (q.1 : Int) ∧ (q.1 : Int) ≤ to_) ∧ (q ∈ L ∨ (q ∈ P ∧ ∀ q' ∈ L, q'.1 ≠ q.1)) := by
  have h0 := (ff_spec from_ L).1
  have i0 : ginv L (ff from_ L) (ff from_ L, []) [] := by
    refine ⟨Nat.le_refl _, ff_le _ _, List.Pairwise.nil, fun q => ?_, fun q _ d hd => by simp at hd, fun q hq => ?_⟩
    · simp
    · obtain ⟨i, hi⟩ := List.mem_iff_getElem?.mp hq
      rw [List.getElem?_drop, List.getElem?_take] at hi
      simp at hi
      omega
  have i1 := gfold_inv (to_ := to_) hL h0 P _ _ i0 hP (fun d hd => by simp at hd)
  rw [List.nil_append] at i1
  obtain ⟨g1, g2, g3, g4, g5, g6⟩ := gpush_inv hL i1 (to_ + 1)
  refine ⟨g3, fun q => ?_⟩
  have hdone : ∀ q, q ∈ P.filter (fun x => decide (¬ ((x.1 : Int) < from_ ∨ to_ < (x.1 : Int)))) ↔ q ∈ P ∧ from_ ≤ (q.1 : Int) ∧ (q.1 : Int) ≤ to_ := fun q => by
    rw [List.mem_filter, decide_eq_true_eq]
    constructor
    · rintro ⟨h1, h2⟩; exact ⟨h1, by omega, by omega⟩
    · rintro ⟨h1, h2, h3⟩; exact ⟨h1, by omega⟩
  unfold gthA
  rw [g4, hdone]
  constructor
  · rintro (h | ⟨⟨h1, h2, h3⟩, h4⟩)
    · have hm : q ∈ L.drop (ff from_ L) := by
        rw [List.drop_take] at h
        exact List.mem_of_mem_take h
      have := ff_rest hL from_ q hm
      refine ⟨⟨this, ?_⟩, Or.inl (List.mem_of_mem_drop hm)⟩
      rcases g6 q h with h | ⟨d, hd, hd2⟩
      · omega
      · have := (hdone d).mp hd; omega
    · exact ⟨⟨h2, h3⟩, Or.inr ⟨h1, h4⟩⟩
  · rintro ⟨⟨h1, h2⟩, h | ⟨h3, h4⟩⟩
    · left
      have hn : q ∈ L.take (gpush L (to_ + 1) (P.foldl (gstep L from_ to_) (ff from_ L, []))).1 := by
        rcases (mem_take_drop (n := (gpush L (to_ + 1) (P.foldl (gstep L from_ to_) (ff from_ L, []))).1)).mp h with h | h
        · exact h
        · have := (g5 q h).1; omega
      rcases (mem_take_drop (n := ff from_ L)).mp hn with h | h
      · rw [List.take_take, Nat.min_eq_left g1] at h
        have := h0 q h; omega
      · exact h
    · exact Or.inr ⟨⟨h3, h1, h2⟩, h4⟩
/-- rows by stamps with the same points are the same -/
theorem srt_ext : ∀ {l l' : List Pt}, srt l → srt l' → (∀ q, q ∈ l ↔ q ∈ l') → l = l'
  | [], [], _, _, _ => rfl
  | [], y :: l', _, _, h => absurd ((h y).mpr (by simp)) (by simp)
  | x :: l, [], _, _, h => absurd ((h x).mp (by simp)) (by simp)
  | x :: l, y :: l', h1, h2, h => by
    have p1 := List.pairwise_cons.mp h1
    have p2 := List.pairwise_cons.mp h2
    have hxy : x = y := by
      rcases List.mem_cons.mp ((h x).mp (by simp)) with e | hx
      · exact e
      · rcases List.mem_cons.mp ((h y).mpr (by simp)) with e | hy
        · exact e.symm
        · have := p1.1 y hy; have := p2.1 x hx; omega
    subst hxy
    congr 1
    refine srt_ext p1.2 p2.2 (fun q => ?_)
    have hq := h q
    rw [List.mem_cons, List.mem_cons] at hq
    constructor
    · intro hm
      rcases hq.mp (Or.inr hm) with e | e
      · have := p1.1 q hm; rw [e] at this; omega
      · exact e
    · intro hm
      rcases hq.mpr (Or.inr hm) with e | e
      · have := p2.1 q hm; rw [e] at this; omega
      · exact e
theorem insA_spec {l : List Pt} (h : srt l) (t : Nat) (v : Int64) : srt (insA l t v) ∧ ∀ q, q ∈ insA l t v ↔ q = (t, v) ∨ (q ∈ l ∧ q.1 ≠ t) := by
  obtain ⟨f1, f2⟩ := ff_spec t l
  have f3 := ff_rest h t
  unfold insA
  by_cases c : (l[ff t l]?).map Prod.fst = some t
  · rw [if_pos c]
    obtain ⟨y, hy, hy2⟩ := Option.map_eq_some_iff.mp c
    have hd := drop_get hy
    have f4 : ∀ q ∈ l.drop (ff t l + 1), t < q.1 := by
      intro q hq
      have := srt_drop h (ff t l)
      rw [hd] at this
      have := (List.pairwise_cons.mp this).1 q hq
      omega
    refine ⟨List.pairwise_append.mpr ⟨srt_take h _, List.pairwise_cons.mpr ⟨fun q hq => f4 q hq, srt_drop h _⟩, fun x hx z hz => ?_⟩, fun q => ?_⟩
    · have h1 := f1 x hx
      rcases List.mem_cons.mp hz with rfl | hz
      · show x.1 < t; omega
      · have := f4 z hz; omega
    · rw [List.mem_append, List.mem_cons, mem_take_drop (n := ff t l) (l := l), hd, List.mem_cons]
      constructor
      · rintro (h | h | h)
        · have := f1 q h; exact Or.inr ⟨Or.inl h, by omega⟩
        · exact Or.inl h
        · have := f4 q h; exact Or.inr ⟨Or.inr (Or.inr h), by omega⟩
      · rintro (h | ⟨h | h | h, h2⟩)
        · exact Or.inr (Or.inl h)
        · exact Or.inl h
        · rw [h] at h2; exact absurd hy2 h2
        · exact Or.inr (Or.inr h)
  · rw [if_neg c]
    have f4 : ∀ q ∈ l.drop (ff t l), t < q.1 := by
      intro q hq
      have h1 := f3 q hq
      obtain ⟨i, hi⟩ := List.getElem?_of_mem hq
      rw [List.getElem?_drop] at hi
      by_cases ci : i = 0
      · subst ci
        rw [Nat.add_zero] at hi
        rw [hi] at c
        simp at c; omega
      · have hl := (List.getElem?_eq_some_iff.mp hi).1
        obtain ⟨y, hy⟩ := get_some (l := l) (i := ff t l) (by omega)
        have := srt_lt h hy hi (by omega)
        have := f2 y hy
        omega
    refine ⟨List.pairwise_append.mpr ⟨srt_take h _, List.pairwise_cons.mpr ⟨fun q hq => f4 q hq, srt_drop h _⟩, fun x hx z hz => ?_⟩, fun q => ?_⟩
    · have h1 := f1 x hx
      rcases List.mem_cons.mp hz with rfl | hz
      · show x.1 < t; omega
      · have := f4 z hz; omega
    · rw [List.mem_append, List.mem_cons, mem_take_drop (n := ff t l) (l := l)]
      constructor
      · rintro (h | h | h)
        · have := f1 q h; exact Or.inr ⟨Or.inl h, by omega⟩
        · exact Or.inl h
        · have := f4 q h; exact Or.inr ⟨Or.inr h, by omega⟩
      · rintro (h | ⟨h | h, h2⟩)
        · exact Or.inr (Or.inl h)
        · exact Or.inl h
        · exact Or.inr (Or.inr h)
def insL_ (P late : List Pt) : List Pt := late.foldl (fun acc q => insA acc q.1 q.2) P
theorem insL_spec : ∀ (late P : List Pt), srt P → late.Pairwise (fun x y => x.1 ≠ y.1) → srt (insL_ P late) ∧ ∀ q, q ∈ insL_ P late ↔ q ∈ late ∨ (q ∈ P ∧ ∀ q' ∈ late, q'.1 ≠ q.1)
  | [], P, h, _ => ⟨h, fun q => by simp [insL_]⟩
  | x :: late, P, h, hd => by
    have hp := List.pairwise_cons.mp hd
    obtain ⟨s1, s2⟩ := insA_spec h x.1 x.2
    obtain ⟨r1, r2⟩ := insL_spec late (insA P x.1 x.2) s1 hp.2
    refine ⟨r1, fun q => ?_⟩
    show q ∈ insL_ (insA P x.1 x.2) late ↔ _
    rw [r2, s2, List.mem_cons]
    constructor
    · rintro (h | ⟨h | ⟨h1, h2⟩, h3⟩)
      · exact Or.inl (Or.inr h)
      · exact Or.inl (Or.inl h)
      · refine Or.inr ⟨h1, fun q' hq' => ?_⟩
        rcases List.mem_cons.mp hq' with rfl | hq'
        · exact Ne.symm h2
        · exact h3 q' hq'
    · rintro ((h | h) | ⟨h1, h2⟩)
      · refine Or.inr ⟨Or.inl h, fun q' hq' => ?_⟩
        rw [h]
        exact Ne.symm (hp.1 q' hq')
      · exact Or.inl h
      · exact Or.inr ⟨Or.inr ⟨h1, Ne.symm (h2 x (by simp))⟩, fun q' hq' => h2 q' (by simp [hq'])⟩
/-- the points of blocks -/
def ptV (x : PtR) : Pt := (x.1, x.2.1)
def blkP (bl : List Bk) : List Pt := bl.flatMap (fun b => (ptsB b).map ptV)
def allP (S : Sr) : List Pt := insL_ (blkP S.2.2.2) S.2.2.1
theorem ptsB_facts {b : Bk} (h : bkOk b) : srt ((ptsB b).map ptV) ∧ (∀ q ∈ (ptsB b).map ptV, b.2.2.2.1 ≤ q.1 ∧ q.1 ≤ b.2.2.2.2) ∧ (ptsB b).length ≤ 737 := by
  cases hs : sndB b with
  | true =>
    obtain ⟨p, c, hr⟩ := snd_rs hs
    obtain ⟨f1, f2, f3, f4, f5, f6, f7, -⟩ := rs_facts h hr
    refine ⟨List.Pairwise.map _ (fun x y hxy => hxy) f6, fun q hq => ?_, f3⟩
    obtain ⟨x, hx, rfl⟩ := List.mem_map.mp hq
    exact f7 x hx
  | false =>
    have : ptsB b = [] := by
      unfold sndB at hs
      unfold ptsB
      cases hr : rsB b with
      | inl e => rfl
      | inr r => rw [hr] at hs; simp at hs
    rw [this]
    exact ⟨List.Pairwise.nil, fun q hq => by simp at hq, by simp⟩
theorem blkP_facts : ∀ {bl : List Bk}, (∀ b ∈ bl, bkOk b) → bl.Pairwise (fun x y => x.2.2.1 = true ∧ x.2.2.2.2 < y.2.2.2.1) → srt (blkP bl) ∧ (∀ q ∈ blkP bl, ∃ b ∈ bl, q ∈ (ptsB b).map ptV) ∧ (blkP bl).length ≤ 737 * bl.length
  | [], _, _ => ⟨List.Pairwise.nil, fun q hq => by simp [blkP] at hq, by simp [blkP]⟩
  | b :: bl, h1, h2 => by
    have hp := List.pairwise_cons.mp h2
    obtain ⟨r1, r2, r3⟩ := blkP_facts (fun x hx => h1 x (by simp [hx])) hp.2
    obtain ⟨s1, s2, s3⟩ := ptsB_facts (h1 b (by simp))
    have e : blkP (b :: bl) = (ptsB b).map ptV ++ blkP bl := by simp [blkP]
    rw [e]
    refine ⟨List.pairwise_append.mpr ⟨s1, r1, fun x hx y hy => ?_⟩, fun q hq => ?_, ?_⟩
    · obtain ⟨b', hb', hy'⟩ := r2 y hy
      have := (s2 x hx).2
      have := ((ptsB_facts (h1 b' (by simp [hb']))).2.1 y hy').1
      have := (hp.1 b' hb').2
      omega
    · rcases List.mem_append.mp hq with hq | hq
      · exact ⟨b, by simp, hq⟩
      · obtain ⟨b', hb', hq'⟩ := r2 q hq
        exact ⟨b', by simp [hb'], hq'⟩
    · rw [List.length_append, List.length_map, List.length_cons]; omega
theorem srt_ne {l : List Pt} (h : srt l) : l.Pairwise (fun x y => x.1 ≠ y.1) := List.Pairwise.imp (fun h => by omega) h
theorem allP_spec {S : Sr} (h : srOk S) : srt (allP S) ∧ ∀ q, q ∈ allP S ↔ q ∈ S.2.2.1 ∨ (q ∈ blkP S.2.2.2 ∧ ∀ q' ∈ S.2.2.1, q'.1 ≠ q.1) := by
  obtain ⟨o1, o2, o3, o4, o5, o6, o7, o8, o9, o10⟩ := h
  exact insL_spec _ _ (blkP_facts (fun b hb => (o9 b hb).1) o10).1 (srt_ne o6)
theorem allP_le {S : Sr} (h : srOk S) : ∀ q ∈ allP S, q.1 ≤ 2000000000 := by
  intro q hq
  have hs := (allP_spec h).2 q
  obtain ⟨o1, o2, o3, o4, o5, o6, o7, o8, o9, o10⟩ := h
  rcases hs.mp hq with h | ⟨h, -⟩
  · have := o7 q h; omega
  · obtain ⟨b, hb, hq'⟩ := (blkP_facts (fun b hb => (o9 b hb).1) o10).2.1 q h
    have := (ptsB_facts (o9 b hb).1).2.1 q hq'
    have := (o9 b hb).2
    omega
theorem gth_all {S : Sr} (h : srOk S) (from_ to_ : Int) : gthA S.2.2.1 (blkP S.2.2.2) from_ to_ = (allP S).filter (fun q => decide (from_ ≤ (q.1 : Int) ∧ (q.1 : Int) ≤ to_)) := by
  obtain ⟨a1, a2⟩ := allP_spec h
  obtain ⟨o1, o2, o3, o4, o5, o6, o7, o8, o9, o10⟩ := h
  obtain ⟨g1, g2⟩ := gthA_spec o6 (blkP_facts (fun b hb => (o9 b hb).1) o10).1 from_ to_
  refine srt_ext g1 (List.Pairwise.sublist List.filter_sublist a1) (fun q => ?_)
  rw [g2, List.mem_filter, a2, decide_eq_true_eq]
  exact And.comm
