/-! ===== the reference gathers: late points ===== -/
/-- places from i on lie one further -/
def shM (m : Mem) (A : Nat) (l : List Pt) (Q : Nat → Int32 → Prop) (i : Nat) : Prop := (∀ (q : Nat) (x : Pt), q < i → l[q]? = some x → eaM m A q x Q) ∧ ∀ (q : Nat) (x : Pt), i ≤ q → l[q]? = some x → eaM m A (q + 1) x Q
theorem ga_168 {K : Kn} {A at_ : Nat} {x1 x2 : Int32} {k110 : Mem → Int32 → Option Mem} {l : List Pt} {Q : Nat → Int32 → Prop} (hl : l.length < 12040) (hat : at_ ≤ l.length) : ∀ (f i : Nat) (m : Mem), at_ ≤ i → i ≤ l.length → i - at_ < f → MS K m A → gI m A 33 = nI l.length → shM m A l Q i → ∃ m', f_X9_gathers_168 K A x1 k110 f m x2 (nI at_) (nI i) = f_X9_gathers_238 K A x1 k110 m' x2 (nI at_) ∧ fr (WG A) m m' ∧ gI m' A 33 = nI (l.length + 1) ∧ shM m' A l Q at_
  | 0, _, _, _, _, h, _, _, _ => absurd h (Nat.not_lt_zero _)
  | f + 1, i, m, h1, h2, hf, h, h33, hs => by
    have unf : f_X9_gathers_168 K A x1 k110 (f + 1) m x2 (nI at_) (nI i) = f_X9_gathers_168B K A x1 k110 (f_X9_gathers_168 K A x1 k110 f) m x2 (nI at_) (nI i) := rfl
    rw [unf]
    unfold f_X9_gathers_168B
    by_cases c : i ≤ at_
    · rw [if_pos ((nI_leI (by omega) (by omega)).mpr c), bd_e, h33, nI_1]
      have e : i = at_ := by omega
      subst e
      have f1 : fr (fun a k => a = A ∧ k = 33) m (sI m A 33 (nI (l.length + 1))) := fr_sI ⟨rfl, rfl⟩
      exact ⟨_, rfl, f1.mono (fun a k z => Or.inl z), gI_sI_s, fun q x hq hx => (hs.1 q x hq hx).on f1 (fun a _ _ z => by omega), fun q x hq hx => (hs.2 q x hq hx).on f1 (fun a _ _ z => by omega)⟩
    rw [if_neg (fun z => c ((nI_leI (by omega) (by omega)).mp z))]
    obtain ⟨x, hx⟩ := get_some (l := l) (i := i - 1) (by omega)
    obtain ⟨e1, e2, e3⟩ := hs.1 (i - 1) x (by omega) hx
    have s1 : ∀ v, MS K (sJ m (A + 19) i v) A := fun v => h.on (fr_sJ (W := fun _ _ => True) trivial)
    have s2 : ∀ v w, MS K (sJ (sJ m (A + 19) i v) (A + 20) i w) A := fun v w => (s1 v).on (fr_sJ (W := fun _ _ => True) trivial)
    rw [h.d30, bind_e, bind_e, show (1 : Int32) = nI 1 from rfl, pk_sub (by omega), h.g30 (by omega), bind_e, h.s30 (by omega), bind_e, (s1 _).d31, bind_e, bind_e, (s1 _).g31 (by omega), bind_e, (s1 _).s31 (by omega), bind_e, (s2 _ _).d32, bind_e, bind_e, (s2 _ _).g32 (by omega), bind_e, (s2 _ _).s32 (by omega), bind_e, bd_e]
    rw [nI_m (b := 1) (by omega)]
    generalize hM : sI (sJ (sJ m (A + 19) i (gJ m (A + 19) (i - 1))) (A + 20) i (gJ (sJ m (A + 19) i (gJ m (A + 19) (i - 1))) (A + 20) (i - 1))) (A + 21) i (gI (sJ (sJ m (A + 19) i (gJ m (A + 19) (i - 1))) (A + 20) i (gJ (sJ m (A + 19) i (gJ m (A + 19) (i - 1))) (A + 20) (i - 1))) (A + 21) (i - 1)) = M
    have fM : fr (fun a j => A + 19 ≤ a ∧ a ≤ A + 21 ∧ j = i) m M := by
      rw [← hM]
      exact ((fr_sJ ⟨by omega, by omega, rfl⟩).trans (fr_sJ ⟨by omega, by omega, rfl⟩)).trans (fr_sI ⟨by omega, by omega, rfl⟩)
    have g1 : gJ M (A + 19) i = lN x.1 := by rw [← hM, gJ_sI, gJ_sJ_n (Or.inl (by omega)), gJ_sJ_s, e1]
    have g2 : gJ M (A + 20) i = x.2 := by rw [← hM, gJ_sI, gJ_sJ_s, gJ_sJ_n (Or.inl (by omega)), e2]
    have g3 : gI M (A + 21) i = gI m (A + 21) (i - 1) := by rw [← hM, gI_sI_s]; rfl
    obtain ⟨m', r1, r2, r3, r4⟩ := ga_168 (K := K) (x1 := x1) (x2 := x2) (k110 := k110) hl hat f (i - 1) M (by omega) (by omega) (by omega) (h.on fM) ((fM.I (fun z => by omega)).trans h33) (⟨fun q y hq hy => (hs.1 q y (by omega) hy).on fM (fun a _ _ z => by omega), fun q y hq hy => by
      by_cases c2 : q = i - 1
      · subst c2
        rw [hx] at hy
        cases hy
        rw [show i - 1 + 1 = i by omega]
        refine ⟨g1, g2, ?_⟩
        rw [g3]; exact e3
      · exact (hs.2 q y (by omega) hy).on fM (fun a _ _ z => by omega)⟩ : shM M A l Q (i - 1))
    exact ⟨m', r1, (fM.mono (fun a k z => by unfold WG; omega)).trans r2, r3, r4⟩
theorem ga_238 {K : Kn} {m : Mem} {A at_ n t : Nat} {v : Int64} {x1 : Int32} {k110 : Mem → Int32 → Option Mem} (h : MS K m A) (hat : at_ < 12040) (hn : n < 100) (h11 : gI m (A + 11) n = nI t) (h12 : gJ m (A + 12) n = v) (ht : t ≤ 2000000000) : ∃ m', f_X9_gathers_238 K A x1 k110 m (nI n) (nI at_) = k110 m' (nI (n + 1)) ∧ fr (fun a j => A + 19 ≤ a ∧ a ≤ A + 21 ∧ j = at_) m m' ∧ gJ m' (A + 19) at_ = lN t ∧ gJ m' (A + 20) at_ = v ∧ gI m' (A + 21) at_ = -1 := by
  unfold f_X9_gathers_238
  have s1 : ∀ v, MS K (sJ m (A + 19) at_ v) A := fun v => h.on (fr_sJ (W := fun _ _ => True) trivial)
  have s2 : ∀ v w, MS K (sJ (sJ m (A + 19) at_ v) (A + 20) at_ w) A := fun v w => (s1 v).on (fr_sJ (W := fun _ _ => True) trivial)
  rw [h.d30, bind_e, h.d10, bind_e, h.g10 hn, bind_e, h11, nI_long (by omega), h.s30 hat, bind_e, (s1 _).d31, bind_e, (s1 _).d11, bind_e, (s1 _).g11 hn, bind_e, gJ_sJ_n (Or.inl (by omega)), h12, (s1 _).s31 hat, bind_e, (s2 _ _).d32, bind_e, (s2 _ _).s32 hat, bind_e, bd_e, nI_1]
  refine ⟨_, rfl, ((fr_sJ ⟨by omega, by omega, rfl⟩).trans (fr_sJ ⟨by omega, by omega, rfl⟩)).trans (fr_sI ⟨by omega, by omega, rfl⟩), ?_, ?_, gI_sI_s⟩
  · rw [gJ_sI, gJ_sJ_n (Or.inl (by omega)), gJ_sJ_s]
  · rw [gJ_sI, gJ_sJ_s]
def QI (Q : Nat → Int32 → Prop) (t : Nat) : Nat → Int32 → Prop := fun t' v' => (t' = t ∧ v' = -1) ∨ (t' ≠ t ∧ Q t' v')
/-- one late point comes -/
theorem ga_one {K : Kn} {m : Mem} {A j i t : Nat} {v : Int64} {k110 : Mem → Int32 → Option Mem} {l : List Pt} {Q : Nat → Int32 → Prop} (h : MS K m A) (hj : j < 4) (hi : i < 20) (hlates : ∃ N, gI m (A + 10) j = nI N ∧ i < N ∧ N ≤ 20) (h11 : gI m (A + 11) (20 * j + i) = nI t) (h12 : gJ m (A + 12) (20 * j + i) = v) (ht : t ≤ 2000000000) (hl : alM m A l Q) (hlen : l.length < 12040) (hs : srt l) (h2 : ∀ q ∈ l, q.1 ≤ 2000000000) :
    ∃ m', f_X9_gathers_110B K A (nI j) k110 m (nI (20 * j + i)) = k110 m' (nI (20 * j + i + 1)) ∧ fr (WG A) m m' ∧ alM m' A (insA l t v) (QI Q t) := by
  obtain ⟨N, n1, n2, n3⟩ := hlates
  unfold f_X9_gathers_110B
  rw [h.d9, bind_e, h.g9 (by omega), bind_e, n1, show (20 : Int32) = nI 20 from rfl, nI_mul, nI_add, if_neg (fun z => by have := (nI_leI (by omega) (by omega)).mp z; omega), h.d10, bind_e, h.g10 (by omega), bind_e, h11, nI_long (by omega), ← lZ_nat, firstNot_ok h hl hs h2 (by omega) (by omega), bind_e, hl.1]
  have hle := ff_le (t : Int) l
  have ins : l[ff t l]? = none ∨ (∃ x, l[ff t l]? = some x ∧ x.1 ≠ t) → ∃ m', f_X9_gathers_162 K A (nI j) k110 m (nI (20 * j + i)) (nI (ff t l)) = k110 m' (nI (20 * j + i + 1)) ∧ fr (WG A) m m' ∧ alM m' A (insA l t v) (QI Q t) := fun hc => by
    unfold f_X9_gathers_162
    rw [bd_e, hl.1]
    obtain ⟨m1, r1, r2, r3, r4⟩ := ga_168 (K := K) (A := A) (at_ := ff t l) (x1 := nI j) (x2 := nI (20 * j + i)) (k110 := k110) (l := l) (Q := Q) hlen hle FU l.length m hle (Nat.le_refl _) (by rw [FU_e]; omega) h hl.1 ⟨fun q x _ hx => hl.2.2 q x hx, fun q x hq hx => by rw [List.getElem?_eq_none hq] at hx; cases hx⟩
    have h1 := h.on r2
    obtain ⟨m2, q1, q2, q3, q4, q5⟩ := ga_238 (K := K) (A := A) (at_ := ff t l) (n := 20 * j + i) (t := t) (v := v) (x1 := nI j) (k110 := k110) h1 (by omega) (by omega) ((r2.I (fun z => by unfold WG at z; omega)).trans h11) ((r2.J (fun z => by unfold WG at z; omega)).trans h12) ht
    rw [r1, q1]
    refine ⟨m2, rfl, r2.trans (q2.mono (fun a k z => by unfold WG; omega)), ?_⟩
    have eI : insA l t v = l.take (ff t l) ++ (t, v) :: l.drop (ff t l) := by
      unfold insA
      rw [if_neg]
      rcases hc with hc | ⟨x, hc, hne⟩
      · rw [hc]; simp
      · rw [hc]; simp; exact hne
    have elen : (insA l t v).length = l.length + 1 := by
      rw [eI, List.length_append, List.length_cons, List.length_take, List.length_drop]; omega
    refine ⟨?_, by omega, fun q x hx => ?_⟩
    · rw [elen, q2.I (fun z => by omega)]; exact r3
    · rw [eI] at hx
      have hnt : ∀ (y : Pt) (k : Nat), l[k]? = some y → k ≠ ff t l → y.1 ≠ t := fun y k hy hk z => by
        have a1 := ff_iff hs (t : Int) hy
        rcases Nat.lt_or_ge k (ff t l) with c | c
        · have := a1.mpr c; omega
        · obtain ⟨w, hw⟩ := get_some (l := l) (i := ff t l) (by have := (List.getElem?_eq_some_iff.mp hy).1; omega)
          have a2 := (ff_spec (t : Int) l).2 w hw
          have := srt_lt hs hw hy (by omega)
          omega
      by_cases c1 : q < ff t l
      · rw [List.getElem?_append_left (by rw [List.length_take]; omega), List.getElem?_take_of_lt c1] at hx
        exact ((r4.1 q x c1 hx).on q2 (fun a _ _ z => by omega)).imp (fun v hv => Or.inr ⟨hnt x q hx (by omega), hv⟩)
      · rw [List.getElem?_append_right (by rw [List.length_take]; omega), List.length_take, show min (ff t l) l.length = ff t l by omega] at hx
        by_cases c2 : q = ff t l
        · rw [c2, Nat.sub_self] at hx
          cases hx
          rw [c2]
          exact ⟨q3, q4, Or.inl ⟨rfl, q5⟩⟩
        · obtain ⟨d, hd⟩ : ∃ d, q - ff t l = d + 1 := ⟨q - ff t l - 1, by omega⟩
          rw [hd, List.getElem?_cons_succ, List.getElem?_drop] at hx
          have e := r4.2 (ff t l + d) x (by omega) hx
          rw [show ff t l + d + 1 = q by omega] at e
          have hxt : x.1 ≠ t := by
            by_cases c3 : d = 0
            · rw [c3, Nat.add_zero] at hx
              rcases hc with hc | ⟨w, hc, hne⟩
              · rw [hc] at hx; cases hx
              · rw [hc] at hx; cases hx; exact hne
            · exact hnt x _ hx (by omega)
          exact (e.on q2 (fun a _ _ z => by omega)).imp (fun v hv => Or.inr ⟨hxt, hv⟩)
  by_cases c : ff t l = l.length
  · rw [if_pos (by rw [c])]
    exact ins (Or.inl (List.getElem?_eq_none (by omega)))
  rw [if_neg (fun z => c ((nI_eq (by omega) (by omega)).mp z)), h.d30, bind_e, h.g30 (by omega), bind_e, bind_e, h.g10 (by omega), bind_e, h11, nI_long (by omega)]
  obtain ⟨x, hx⟩ := get_some (l := l) (i := ff t l) (by omega)
  have hx2 := h2 x (List.mem_of_getElem? hx)
  rw [(hl.2.2 _ x hx).1]
  have c1 : lg_cmp (lN x.1) (lN t) = 0 ↔ x.1 = t := lgN (by omega) (by omega)
  by_cases d : x.1 = t
  · rw [if_pos (c1.mpr d)]
    obtain ⟨m2, q1, q2, q3, q4, q5⟩ := ga_238 (K := K) (A := A) (at_ := ff t l) (n := 20 * j + i) (t := t) (v := v) (x1 := nI j) (k110 := k110) h (by omega) (by omega) h11 h12 ht
    rw [q1]
    refine ⟨m2, rfl, q2.mono (fun a k z => by unfold WG; omega), ?_⟩
    have eI : insA l t v = l.take (ff t l) ++ (t, v) :: l.drop (ff t l + 1) := by
      unfold insA
      rw [if_pos (by rw [hx]; simp; exact d)]
    have elen : (insA l t v).length = l.length := by
      rw [eI, List.length_append, List.length_cons, List.length_take, List.length_drop]; omega
    refine ⟨?_, by omega, fun q y hy => ?_⟩
    · rw [elen, q2.I (fun z => by omega)]; exact hl.1
    · rw [eI] at hy
      by_cases c1 : q < ff t l
      · rw [List.getElem?_append_left (by rw [List.length_take]; omega), List.getElem?_take_of_lt c1] at hy
        have := srt_lt hs hy hx c1
        exact ((hl.2.2 q y hy).on q2 (fun a _ _ z => by omega)).imp (fun v hv => Or.inr ⟨by omega, hv⟩)
      · rw [List.getElem?_append_right (by rw [List.length_take]; omega), List.length_take, show min (ff t l) l.length = ff t l by omega] at hy
        by_cases c2 : q = ff t l
        · rw [c2, Nat.sub_self] at hy
          cases hy
          rw [c2]
          exact ⟨q3, q4, Or.inl ⟨rfl, q5⟩⟩
        · obtain ⟨d', hd⟩ : ∃ d', q - ff t l = d' + 1 := ⟨q - ff t l - 1, by omega⟩
          rw [hd, List.getElem?_cons_succ, List.getElem?_drop, show ff t l + 1 + d' = q by omega] at hy
          have := srt_lt hs hx hy (by omega)
          exact ((hl.2.2 q y hy).on q2 (fun a _ _ z => by omega)).imp (fun v hv => Or.inr ⟨by omega, hv⟩)
  · rw [if_neg (fun z => d (c1.mp z))]
    exact ins (Or.inr ⟨x, hx, d⟩)
/-- where a point lies: late, or in a block -/
def QW (bl : List Bk) (L : List Pt) (t : Nat) (v : Int32) : Prop := (v = -1 ∧ ∃ q ∈ L, q.1 = t) ∨ ((∀ q ∈ L, q.1 ≠ t) ∧ QB bl t v)
theorem ga_110 {K : Kn} {A j : Nat} {bl : List Bk} {P L : List Pt} (hj : j < 4) (hP : srt P) (hP2 : ∀ q ∈ P, q.1 ≤ 2000000000) (hPl : P.length ≤ 11792) (hL : L.length ≤ 20) (hLd : L.Pairwise (fun x y => x.1 ≠ y.1)) (hL2 : ∀ q ∈ L, q.1 ≤ 2000000000) : ∀ (f i : Nat) (m : Mem), i ≤ L.length → L.length - i < f → MS K m A → gI m (A + 10) j = nI L.length → (∀ (k : Nat) (x : Pt), L[k]? = some x → gI m (A + 11) (20 * j + k) = nI x.1 ∧ gJ m (A + 12) (20 * j + k) = x.2) → alM m A (insL_ P (L.take i)) (QW bl (L.take i)) → ∃ m', f_X9_gathers_110 K A (nI j) f m (nI (20 * j + i)) = some m' ∧ fr (WG A) m m' ∧ alM m' A (insL_ P L) (QW bl L)
  | 0, _, _, _, h, _, _, _, _ => absurd h (Nat.not_lt_zero _)
  | f + 1, i, m, hi, hf, h, h10, h11, hal => by
    have unf : f_X9_gathers_110 K A (nI j) (f + 1) m (nI (20 * j + i)) = f_X9_gathers_110B K A (nI j) (f_X9_gathers_110 K A (nI j) f) m (nI (20 * j + i)) := rfl
    rw [unf]
    by_cases c : L.length ≤ i
    · unfold f_X9_gathers_110B
      rw [h.d9, bind_e, h.g9 (by omega), bind_e, h10, show (20 : Int32) = nI 20 from rfl, nI_mul, nI_add, if_pos ((nI_leI (by omega) (by omega)).mpr (by omega))]
      rw [List.take_of_length_le c] at hal
      exact ⟨m, rfl, fr.refl m, hal⟩
    obtain ⟨x, hx⟩ := get_some (l := L) (i := i) (by omega)
    have hdt : (L.take i).Pairwise (fun x y => x.1 ≠ y.1) := List.Pairwise.sublist (List.take_sublist i L) hLd
    obtain ⟨sp1, sp2⟩ := insL_spec (L.take i) P hP hdt
    have hle2 : ∀ q ∈ insL_ P (L.take i), q.1 ≤ 2000000000 := fun q hq => by
      rcases (sp2 q).mp hq with z | ⟨z, -⟩
      · exact hL2 q (List.mem_of_mem_take z)
      · exact hP2 q z
    have hlen : (insL_ P (L.take i)).length ≤ 11792 + i := by
      have : ∀ (late : List Pt) (P : List Pt), (insL_ P late).length ≤ P.length + late.length := by
        intro late
        induction late with
        | nil => intro P; simp [insL_]
        | cons x late ih =>
          intro P
          have h1 := ih (insA P x.1 x.2)
          have h2 : (insA P x.1 x.2).length ≤ P.length + 1 := insA_len (n := P.length + 1) (Or.inr (by omega)) (by omega)
          show (insL_ (insA P x.1 x.2) late).length ≤ _
          rw [List.length_cons]; omega
      have h3 := this (L.take i) P
      rw [List.length_take] at h3
      omega
    obtain ⟨a1, a2⟩ := h11 i x hx
    obtain ⟨m1, r1, r2, r3⟩ := ga_one (K := K) (A := A) (j := j) (i := i) (t := x.1) (v := x.2) (k110 := f_X9_gathers_110 K A (nI j) f) h hj (by omega) ⟨L.length, h10, by omega, hL⟩ a1 a2 (hL2 x (List.mem_of_getElem? hx)) hal (by omega) sp1 hle2
    have et : L.take (i + 1) = L.take i ++ [x] := by rw [List.take_add_one, hx]; rfl
    have e2 : insL_ P (L.take (i + 1)) = insA (insL_ P (L.take i)) x.1 x.2 := by
      rw [et]; unfold insL_; rw [List.foldl_append]; rfl
    rw [r1]
    have hal1 : alM m1 A (insL_ P (L.take (i + 1))) (QW bl (L.take (i + 1))) := by
      rw [e2]
      refine r3.imp (fun t v hv => ?_)
      rw [et]
      rcases hv with ⟨z1, z2⟩ | ⟨z1, ⟨z2, q, z3, z4⟩ | ⟨z2, z3⟩⟩
      · exact Or.inl ⟨z2, x, by simp, z1.symm⟩
      · exact Or.inl ⟨z2, q, by simp [z3], z4⟩
      · refine Or.inr ⟨fun q hq => ?_, z3⟩
        rcases List.mem_append.mp hq with hq | hq
        · exact z2 q hq
        · simp at hq; rw [hq]; exact Ne.symm z1
    obtain ⟨m2, q1, q2, q3⟩ := ga_110 (K := K) hj hP hP2 hPl hL hLd hL2 f (i + 1) m1 (by omega) (by omega) (h.on r2) ((r2.I (fun z => by unfold WG at z; omega)).trans h10) (fun k y hy => ⟨(r2.I (fun z => by unfold WG at z; omega)).trans (h11 k y hy).1, (r2.J (fun z => by unfold WG at z; omega)).trans (h11 k y hy).2⟩) hal1
    rw [Nat.add_assoc, q1]
    exact ⟨m2, rfl, r2.trans q2, q3⟩
theorem blkP_le {S : Sr} (h : srOk S) : ∀ q ∈ blkP S.2.2.2, q.1 ≤ 2000000000 := fun q hq => by
  obtain ⟨b, hb, hq2⟩ := (blkP_facts (fun b hb => (h.2.2.2.2.2.2.2.2.1 b hb).1) h.2.2.2.2.2.2.2.2.2).2.1 q hq
  have := ((ptsB_facts (h.2.2.2.2.2.2.2.2.1 b hb).1).2.1 q hq2).2
  have := (h.2.2.2.2.2.2.2.2.1 b hb).1.2.2.2.2.2.2
  omega
/-- the reference gathers a series -/
theorem gathers_ok {K : Kn} {m : Mem} {A j : Nat} {S : Sr} (h : MS K m A) (hj : j < 4) (hS : srOk S) (hm : smR m A j S) : ∃ m', F_X9_gathers K m A (nI j) = some m' ∧ KP A m m' ∧ fr (WA A) m m' ∧ alM m' A (allP S) (QW S.2.2.2 S.2.2.1) := by
  unfold F_X9_gathers f_X9_gathers
  rw [bd_e]
  have f1 : fr (WG A) m (sI m A 33 0) := fr_sI (Or.inl ⟨rfl, rfl⟩)
  have k1 := WG_KP f1
  have hm1 := hm.keep hS hj k1
  have g33 : gI (sI m A 33 0) A 33 = 0 := gI_sI_s
  generalize sI m A 33 0 = m1 at f1 k1 hm1 g33 ⊢
  have h1 := h.on f1
  obtain ⟨m2, r1, r2, r3, r4⟩ := ga_7 (K := K) hj hS FU 0 m1 (Nat.zero_le _) (by rw [FU_e]; have := hS.2.2.2.2.2.2.2.1; omega) h1 hm1 ⟨by rw [g33]; rfl, by simp [blkP], fun i x hx => by simp [blkP] at hx⟩
  have h2 := h1.on r2.1
  have hm2 := hm1.keep hS hj r2
  obtain ⟨-, -, -, -, L, p1, p2, p3⟩ := hm2
  have bf := blkP_facts (fun b hb => (hS.2.2.2.2.2.2.2.2.1 b hb).1) hS.2.2.2.2.2.2.2.2.2
  have hl20 := hS.2.2.2.2.1
  have h16 := hS.2.2.2.2.2.2.2.1
  have hLd : L.Pairwise (fun x y => x.1 ≠ y.1) := (p1.pairwise_iff (fun h => Ne.symm h)).mpr (srt_ne hS.2.2.2.2.2.1)
  have hL2 : ∀ q ∈ L, q.1 ≤ 2000000000 := fun q hq => by
    have := hS.2.2.2.2.2.2.1 q (p1.mem_iff.mp hq)
    have := hS.2.2.2.1
    omega
  obtain ⟨m3, q1, q2, q3⟩ := ga_110 (K := K) (bl := S.2.2.2) (P := blkP S.2.2.2) (L := L) hj bf.1 (blkP_le hS) (by omega) (by have := p1.length_eq; omega) hLd hL2 FU 0 m2 (Nat.zero_le _) (by rw [FU_e]; have := p1.length_eq; omega) h2 p2 p3 (r4.imp (fun t v hv => Or.inr ⟨fun q hq => by simp at hq, hv⟩))
  rw [show (0 : Int32) = nI 0 from rfl, r1, ← Nat.add_zero (20 * j), q1]
  refine ⟨m3, rfl, (k1.trans r2).trans (WG_KP q2), ((f1.mono (fun a k z => WG_WA z)).trans r3).trans (q2.mono (fun a k z => WG_WA z)), ?_⟩
  have eA : insL_ (blkP S.2.2.2) L = allP S := by
    obtain ⟨s1, s2⟩ := insL_spec L (blkP S.2.2.2) bf.1 hLd
    obtain ⟨s3, s4⟩ := allP_spec hS
    refine srt_ext s1 s3 (fun q => ?_)
    rw [s2, s4, p1.mem_iff]
    constructor
    · rintro (z | ⟨z1, z2⟩)
      · exact Or.inl z
      · exact Or.inr ⟨z1, fun q' hq' => z2 q' (p1.mem_iff.mpr hq')⟩
    · rintro (z | ⟨z1, z2⟩)
      · exact Or.inl z
      · exact Or.inr ⟨z1, fun q' hq' => z2 q' (p1.mem_iff.mp hq')⟩
  rw [eA] at q3
  refine q3.imp (fun t v hv => ?_)
  rcases hv with ⟨z1, q, z2, z3⟩ | ⟨z1, z2⟩
  · exact Or.inl ⟨z1, q, p1.mem_iff.mp z2, z3⟩
  · exact Or.inr ⟨fun q hq => z1 q (p1.mem_iff.mpr hq), z2⟩
