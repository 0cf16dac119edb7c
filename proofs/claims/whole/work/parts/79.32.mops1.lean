/-! ===== calls of the reference ===== -/
theorem nI_ne_m1 {n : Nat} (h : n < 2147483648) : ¬ nI n = (-1 : Int32) := fun z => by
  have := congrArg Int32.toInt z
  rw [nI_toInt h] at this
  have e : (-1 : Int32).toInt = -1 := rfl
  omega
theorem in_w (n : Nat) (hn : n < 2147483648) (x : Int32) : (F_X9_in x.toInt64 (0 : Int64) (lN n) = some 0 ∧ (x < 0 ∨ (¬ x < 0 ∧ ¬ x ≤ nI n))) ∨ (F_X9_in x.toInt64 (0 : Int64) (lN n) = some 1 ∧ ¬ x < 0 ∧ x ≤ nI n) := by
  rw [in_ok, Int32.toInt_toInt64, pf_lI (by omega), fa_lt, fa_le, nI_toInt hn]
  have e1 : (0 : Int64).toInt = 0 := rfl
  have e2 : (0 : Int32).toInt = 0 := rfl
  rw [e1, e2]
  by_cases c : 0 ≤ x.toInt ∧ x.toInt ≤ n
  · right
    rw [if_pos c]
    exact ⟨rfl, by omega, by omega⟩
  · left
    rw [if_neg c]
    refine ⟨rfl, ?_⟩
    by_cases c1 : x.toInt < 0
    · exact Or.inl c1
    · exact Or.inr ⟨c1, by omega⟩
theorem rs_hd {b : Bk} (hb : bkOk b) {p : Nat} {c : Cs} {l : List PtR} (h : rsB b = .inr (p, c, l)) {m : Mem} {A : Nat} (ha : arM m A l) : gJ m (A + 14) 0 = lN b.2.2.2.1 := by
  obtain ⟨-, -, -, -, -, -, -, ⟨x, l', h1, h2⟩, -⟩ := rs_facts hb h
  have := (ha 0 x (by rw [h1]; rfl)).1
  rw [h2] at this
  exact this
theorem l2i_nI (n : Nat) (h : n < 2147483648) : ((nI n).toInt64).toInt32 = nI n := by rw [nI_long h, l2i_lN]
theorem mblock_ok {K : Kn} {m : Mem} {A : Nat} {s : St} (hok : stOk s) (h : RM K m A s) (x k w : Int32) : okM K m A (F_X9_block K m A x k w) (aBlock s x k w) s := by
  unfold F_X9_block f_X9_block aBlock f_X9_block_42 f_X9_block_131
  rcases isBlock_ok hok h x k with ⟨hb, hn⟩ | ⟨S, j, n, b, hs, hj, rfl, rfl, hnl, hbl, hb, hS, hbok, hm, hmb, h64, hn⟩
  · rw [hn, hb, bind_e, if_pos rfl]; exact okM.same h
  · rw [hn, hb, bind_e, if_neg (by decide)]
    dsimp only
    rcases in_w 5 (by decide) w with ⟨hi, c1 | ⟨c1, c2⟩⟩ | ⟨hi, c1, c2⟩
    · have hi : F_X9_in w.toInt64 (0 : Int64) (5 : Int64) = some 0 := hi
      rw [hi, bind_e, if_pos rfl, if_pos c1]; exact okM.same h
    · have hi : F_X9_in w.toInt64 (0 : Int64) (5 : Int64) = some 0 := hi
      have c2 : ¬ w ≤ (5 : Int32) := c2
      rw [hi, bind_e, if_pos rfl, if_neg c1, if_neg c2]; exact okM.same h
    · have hi : F_X9_in w.toInt64 (0 : Int64) (5 : Int64) = some 1 := hi
      have c2 : w ≤ (5 : Int32) := c2
      rw [hi, bind_e, if_neg (by decide), if_neg c1, if_pos c2, bd_e, show (16 : Int32) = nI 16 from rfl, nI_mul, nI_add]
      by_cases w3 : w = 3
      · simp only [if_pos w3]
        rw [h.1.d4, bind_e, h.1.g4 (by omega), bind_e, hmb.2.1]; exact okM.same h
      simp only [if_neg w3]
      by_cases w5 : w = 5
      · simp only [if_pos w5]
        rw [h.1.d6, bind_e, h.1.g6 (by omega), bind_e, hmb.2.2.1]
        cases b.2.2.1 <;> exact okM.same h
      simp only [if_neg w5]
      obtain ⟨m1, r1, r2, r3, r4⟩ := isBroken_ok h.1 h64 hbok hmb
      rw [r1, bind_e]
      have hS1 := h.1.on r3
      unfold sndB
      cases hr : rsB b with
      | inl e =>
        dsimp only
        rw [if_neg (by decide : ¬ (false = true)), if_neg (by decide)]
        exact okM.kp hok h r2
      | inr r =>
        obtain ⟨p, c, l⟩ := r
        rw [hr] at r4
        obtain ⟨a1, a2, a3, a4, a5, a6, a7⟩ := r4
        obtain ⟨f1, f2, f3, f4, f5, f6, f7, f8, f9, f10, f11⟩ := rs_facts hbok hr
        dsimp only at a3 a4 a5 a6 a7 ⊢
        rw [if_pos rfl, if_pos rfl]
        by_cases w0 : w = 0
        · rw [if_pos w0, if_pos w0, hS1.d21, bind_e, show (0 : Int32) = nI 0 from rfl, hS1.g21 (by omega), bind_e, rs_hd hbok hr a7, l2i_lN]
          exact okM.kp hok h r2
        rw [if_neg w0, if_neg w0]
        by_cases w1 : w = 1
        · rw [if_pos w1, if_pos w1, a4.1, l2i_lN, f10]
          exact okM.kp hok h r2
        rw [if_neg w1, if_neg w1]
        by_cases w2 : w = 2
        · rw [if_pos w2, if_pos w2, a3, l2i_nI _ (by omega)]
          exact okM.kp hok h r2
        · rw [if_neg w2, if_neg w2, hS1.d5, bind_e, hS1.g5 (by omega), bind_e, a6, l2i_nI _ (by omega)]
          exact okM.kp hok h r2
theorem moctet_ok {K : Kn} {m : Mem} {A : Nat} {s : St} (hok : stOk s) (h : RM K m A s) (x k i : Int32) : F_X9_octet K m A x k i = some (aOctet s x k i) := by
  unfold F_X9_octet f_X9_octet aOctet
  rcases isBlock_ok hok h x k with ⟨hb, hn⟩ | ⟨S, j, n, b, hs, hj, rfl, rfl, hnl, hbl, hb, hS, hbok, hm, hmb, h64, hn⟩
  · rw [hn, hb, bind_e, if_pos rfl]
  · have h14 := hbok.2.1
    have h200 := hbok.2.2.1
    rw [hn, hb, bind_e, if_neg (by decide), show (16 : Int32) = nI 16 from rfl, nI_mul, nI_add, h.1.d4, bind_e, h.1.g4 (by omega), bind_e, hmb.2.1, show (1 : Int32) = nI 1 from rfl, pk_sub (by omega), nI_long (by omega)]
    dsimp only
    rcases in_w (b.2.1 - 1) (by omega) i with ⟨hi, c1 | ⟨c1, c2⟩⟩ | ⟨hi, c1, c2⟩
    · rw [hi, bind_e, if_pos rfl, if_pos c1]
    · rw [hi, bind_e, if_pos rfl, if_neg c1]
      obtain ⟨t, ht, rfl, hcl⟩ := idx_nI c1
      rw [if_neg (fun z => c2 ((nI_leI ht (by omega)).mpr (by have := (nI_ltI ht (by omega)).mp z; omega)))]
    · rw [hi, bind_e, if_neg (by decide), if_neg c1]
      obtain ⟨t, ht, rfl, hcl⟩ := idx_nI c1
      have c3 : t ≤ b.2.1 - 1 := (nI_leI ht (by omega)).mp c2
      rw [if_pos ((nI_ltI ht (by omega)).mpr (by omega)), byteAt_ok h.1 (by omega) (by omega), bind_e, hmb.1 t (by omega), hcl]
theorem mfault_ok {K : Kn} {m : Mem} {A : Nat} {s : St} (hok : stOk s) (h : RM K m A s) (x k w : Int32) : okM K m A (F_X9_fault K m A x k w) (aFault s x k w) s := by
  unfold F_X9_fault f_X9_fault aFault
  rcases isBlock_ok hok h x k with ⟨hb, hn⟩ | ⟨S, j, n, b, hs, hj, rfl, rfl, hnl, hbl, hb, hS, hbok, hm, hmb, h64, hn⟩
  · rw [hn, hb, bind_e, if_pos rfl]; exact okM.same h
  · rw [hn, hb, bind_e, if_neg (by decide)]
    dsimp only
    rcases in_w 1 (by decide) w with ⟨hi, c1 | ⟨c1, c2⟩⟩ | ⟨hi, c1, c2⟩
    · have hi : F_X9_in w.toInt64 (0 : Int64) (1 : Int64) = some 0 := hi
      rw [hi, bind_e, if_pos rfl, if_pos c1]; exact okM.same h
    · have hi : F_X9_in w.toInt64 (0 : Int64) (1 : Int64) = some 0 := hi
      have c2 : ¬ w ≤ (1 : Int32) := c2
      rw [hi, bind_e, if_pos rfl, if_neg c1, if_neg c2]; exact okM.same h
    · have hi : F_X9_in w.toInt64 (0 : Int64) (1 : Int64) = some 1 := hi
      have c2 : w ≤ (1 : Int32) := c2
      rw [hi, bind_e, if_neg (by decide), if_neg c1, if_pos c2, show (16 : Int32) = nI 16 from rfl, nI_mul, nI_add]
      obtain ⟨m1, r1, r2, r3, r4⟩ := isBroken_ok h.1 h64 hbok hmb
      have e0 : ∃ m2, F_X9_reads K m A (nI (16 * j + n)) = some m2 ∧ m2 = m1 := by
        unfold F_X9_isBroken f_X9_isBroken at r1
        cases hx : F_X9_reads K m A (nI (16 * j + n)) with
        | none => rw [hx] at r1; cases r1
        | some m2 =>
          rw [hx, bind_e] at r1
          refine ⟨m2, rfl, ?_⟩
          split at r1 <;> exact (Prod.mk.inj (Option.some.inj r1)).2
      obtain ⟨m2, e1, e2⟩ := e0
      subst e2
      rw [e1, bind_e]
      cases hr : rsB b with
      | inl e =>
        rw [hr] at r4
        by_cases w0 : w = 0
        · rw [if_pos w0, if_pos w0, r4.1]; exact okM.kp hok h r2
        · rw [if_neg w0, if_neg w0, r4.2]; exact okM.kp hok h r2
      | inr r =>
        rw [hr] at r4
        by_cases w0 : w = 0
        · rw [if_pos w0, if_pos w0, r4.1]; exact okM.kp hok h r2
        · rw [if_neg w0, if_neg w0, r4.2.1]; exact okM.kp hok h r2
/-- what is gathered of a series -/
def gaM (K : Kn) (m : Mem) (A : Nat) (S : Sr) : Prop := MS K m A ∧ alM m A (allP S) (QW S.2.2.2 S.2.2.1)
theorem gathM {K : Kn} {m : Mem} {A : Nat} {s : St} (hok : stOk s) (h : RM K m A s) {x : Int32} {S : Sr} (hs : sl s x = some S) : ∃ m', F_X9_gathers K m A x = some m' ∧ KP A m m' ∧ fr (WA A) m m' ∧ gaM K m' A S ∧ RM K m' A s ∧ srOk S ∧ srt (allP S) ∧ (∀ q ∈ allP S, q.1 ≤ 2000000000) := by
  obtain ⟨j, hj, rfl, hsj, hS, hm⟩ := h.at hok hs
  obtain ⟨m', r1, r2, r3, r4⟩ := gathers_ok h.1 hj hS hm
  exact ⟨m', r1, r2, r3, ⟨h.1.on r2.1, r4⟩, h.keep hok r2, hS, (allP_spec hS).1, allP_le hS⟩
theorem placeOf_ok {K : Kn} {m : Mem} {A : Nat} {l : List Pt} {Q : Nat → Int32 → Prop} (h : MS K m A) (hl : alM m A l Q) (hs : srt l) (h2 : ∀ q ∈ l, q.1 ≤ 2000000000) (x : Int32) : (∃ y, l[ff x.toInt l]? = some y ∧ (y.1 : Int) = x.toInt ∧ F_X9_placeOf K m A x = some (nI (ff x.toInt l)) ∧ ff x.toInt l < 12040) ∨ ((∀ y ∈ l, (y.1 : Int) ≠ x.toInt) ∧ F_X9_placeOf K m A x = some (-1)) := by
  unfold F_X9_placeOf f_X9_placeOf f_X9_placeOf_31
  obtain ⟨b1, b2⟩ := i32b x
  have hle := ff_le x.toInt l
  have hlen := hl.2.1
  rw [iL, firstNot_ok h hl hs h2 (by omega) (by omega), bind_e, hl.1]
  have no : l[ff x.toInt l]? = none ∨ (∃ y, l[ff x.toInt l]? = some y ∧ (y.1 : Int) ≠ x.toInt) → ∀ y ∈ l, (y.1 : Int) ≠ x.toInt := fun hc y hy z => by
    obtain ⟨k, hk⟩ := List.getElem?_of_mem hy
    have a1 := ff_iff hs x.toInt hk
    rcases Nat.lt_or_ge k (ff x.toInt l) with c | c
    · have := a1.mpr c; omega
    · obtain ⟨w, hw⟩ := get_some (l := l) (i := ff x.toInt l) (by have := (List.getElem?_eq_some_iff.mp hk).1; omega)
      have a2 := (ff_spec x.toInt l).2 w hw
      rcases hc with hc | ⟨w', hc, hne⟩
      · rw [hc] at hw; cases hw
      · rw [hc] at hw; cases hw
        rcases Nat.lt_or_ge (ff x.toInt l) k with c3 | c3
        · have := srt_lt hs hc hk c3; omega
        · have e : k = ff x.toInt l := by omega
          rw [e, hc] at hk; cases hk; exact hne z
  by_cases c : l.length ≤ ff x.toInt l
  · right
    rw [if_pos ((nI_leI (by omega) (by omega)).mpr c)]
    exact ⟨no (Or.inl (List.getElem?_eq_none c)), rfl⟩
  rw [if_neg (fun z => c ((nI_leI (by omega) (by omega)).mp z)), h.d30, bind_e, h.g30 (by omega), bind_e]
  obtain ⟨y, hy⟩ := get_some (l := l) (i := ff x.toInt l) (by omega)
  have hy2 := h2 y (List.mem_of_getElem? hy)
  rw [(hl.2.2 _ y hy).1]
  have c1 : lg_cmp (lN y.1) (lZ x.toInt) = 0 ↔ (y.1 : Int) = x.toInt := by
    rw [lg_cmp_eq, fa_eq64, ← lZ_nat, lZ_toInt (by omega) (by omega), lZ_toInt (by omega) (by omega)]
  by_cases d : (y.1 : Int) = x.toInt
  · left
    rw [if_pos (c1.mpr d)]
    exact ⟨y, hy, d, rfl, by omega⟩
  · right
    rw [if_neg (fun z => d (c1.mp z))]
    exact ⟨no (Or.inr ⟨y, hy, d⟩), rfl⟩
theorem span_pt {S : Sr} (hS : srOk S) {y : Pt} (hy : y ∈ allP S) {t : Int} (e : (y.1 : Int) = t) : spanP S t t = [y] := by
  have hs := (allP_spec hS).1
  unfold spanP
  refine srt_ext (List.Pairwise.sublist List.filter_sublist hs) (List.pairwise_singleton _ _) (fun q => ?_)
  rw [List.mem_filter, decide_eq_true_eq, List.mem_singleton]
  constructor
  · rintro ⟨h1, h2, h3⟩
    exact srt_uniq hs h1 hy (by omega)
  · rintro rfl
    exact ⟨hy, by omega, by omega⟩
theorem span_no {S : Sr} {t : Int} (h : ∀ y ∈ allP S, (y.1 : Int) ≠ t) : spanP S t t = [] := by
  unfold spanP
  rw [List.filter_eq_nil_iff]
  intro y hy
  have := h y hy
  rw [decide_eq_true_eq]; omega
theorem mhas_ok {K : Kn} {m : Mem} {A : Nat} {s : St} (hok : stOk s) (h : RM K m A s) (x t : Int32) : okM K m A (F_X9_has K m A x t) (aHas s x t) s := by
  unfold F_X9_has f_X9_has aHas
  rcases isAsked_ok hok h x t with ⟨hs, hn⟩ | ⟨S, hs, hn⟩
  · rw [hn, hs, bind_e, if_pos rfl]; exact okM.same h
  · rw [hn, hs, bind_e]
    dsimp only
    by_cases ct : stm t = true
    · rw [if_pos ct, if_pos ct, if_neg (by decide)]
      obtain ⟨m1, r1, r2, r3, ⟨g1, g2⟩, r5, hS, g3, g4⟩ := gathM hok h hs
      rw [r1, bind_e]
      rcases placeOf_ok g1 g2 g3 g4 t with ⟨y, p1, p2, p3, p4⟩ | ⟨p1, p2⟩
      · rw [p3, bind_e, if_neg (nI_ne_m1 (by omega)), span_pt hS (List.mem_of_getElem? p1) p2, if_neg (by simp)]
        exact okM.kp hok h r2
      · rw [p2, bind_e, if_pos rfl, span_no p1, if_pos (show ([] : List Pt).length = 0 from rfl)]
        exact okM.kp hok h r2
    · rw [if_neg ct, if_neg ct, if_pos rfl]; exact okM.same h
theorem mat_ok {K : Kn} {m : Mem} {A : Nat} {s : St} (hok : stOk s) (h : RM K m A s) (x t : Int32) : okM K m A (F_X9_at K m A x t) (aAt s x t) s := by
  unfold F_X9_at f_X9_at aAt
  rcases isAsked_ok hok h x t with ⟨hs, hn⟩ | ⟨S, hs, hn⟩
  · rw [hn, hs, bind_e, if_pos rfl]; exact okM.same h
  · rw [hn, hs, bind_e]
    dsimp only
    by_cases ct : stm t = true
    · rw [if_pos ct, if_pos ct, if_neg (by decide)]
      obtain ⟨m1, r1, r2, r3, ⟨g1, g2⟩, r5, hS, g3, g4⟩ := gathM hok h hs
      rw [r1, bind_e]
      rcases placeOf_ok g1 g2 g3 g4 t with ⟨y, p1, p2, p3, p4⟩ | ⟨p1, p2⟩
      · rw [p3, bind_e, if_neg (nI_ne_m1 (by omega)), span_pt hS (List.mem_of_getElem? p1) p2, g1.d31, bind_e, g1.g31 p4, bind_e, (g2.2.2 _ y p1).2.1]
        exact okM.kp hok h r2
      · rw [p2, bind_e, if_pos rfl, span_no p1]
        exact okM.kp hok h r2
    · rw [if_neg ct, if_neg ct, if_pos rfl]; exact okM.same h
