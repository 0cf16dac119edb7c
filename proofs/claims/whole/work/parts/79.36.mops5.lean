/-! ===== calls of the reference: nearest; spans ===== -/
def nrF (t : Int) (b : Int) (q : Pt) : Int := if b = -1 ∨ ((q.1 : Int) - t).natAbs < (b - t).natAbs then (q.1 : Int) else b
theorem nr_below {t : Int} : ∀ (l : List Pt) (b : Int), srt l → (∀ q ∈ l, (q.1 : Int) < t) → (b = -1 ∨ (0 ≤ b ∧ b < t ∧ ∀ q ∈ l, b < (q.1 : Int))) → l.foldl (nrF t) b = (match l.getLast? with
    | none => b
    | some q => (q.1 : Int))
  | [], b, _, _, _ => rfl
  | q :: l, b, hs, h2, hb => by
    have hp := List.pairwise_cons.mp hs
    have hq := h2 q (by simp)
    have e : nrF t b q = (q.1 : Int) := by
      unfold nrF
      rw [if_pos]
      rcases hb with hb | ⟨b1, b2, b3⟩
      · exact Or.inl hb
      · right
        have := b3 q (by simp)
        omega
    show l.foldl (nrF t) (nrF t b q) = _
    rw [e, nr_below l q.1 hp.2 (fun y hy => h2 y (by simp [hy])) (Or.inr ⟨by omega, hq, fun y hy => by have := hp.1 y hy; omega⟩)]
    cases l with
    | nil => rfl
    | cons y l => rw [List.getLast?_cons_cons]; cases hl : (y :: l).getLast? with
      | none => simp at hl
      | some z => rfl
theorem nr_stay {t : Int} : ∀ (l : List Pt) (b : Int), b ≠ -1 → (∀ q ∈ l, (b - t).natAbs ≤ ((q.1 : Int) - t).natAbs) → l.foldl (nrF t) b = b
  | [], _, _, _ => rfl
  | q :: l, b, hb, h => by
    have e : nrF t b q = b := by
      unfold nrF
      rw [if_neg]
      have := h q (by simp)
      omega
    show l.foldl (nrF t) (nrF t b q) = _
    rw [e]
    exact nr_stay l b hb (fun y hy => h y (by simp [hy]))
theorem near_rel {l : List Pt} (hs : srt l) (h2 : ∀ q ∈ l, q.1 ≤ 2000000000) {t : Nat} (ht : t ≤ 2000000000) : nearA l t = iZ (l.foldl (nrF t) (-1)) := by
  have hle := ff_le (t : Int) l
  have h1 := (ff_spec (t : Int) l).1
  have hbelow := nr_below (t := (t : Int)) (l.take (ff t l)) (-1) (srt_take hs _) h1 (Or.inl rfl)
  have esp : l.foldl (nrF t) (-1) = (l.drop (ff t l)).foldl (nrF t) ((l.take (ff t l)).foldl (nrF t) (-1)) := by
    rw [← List.foldl_append, List.take_append_drop]
  rw [esp, hbelow]
  have hge := ff_rest hs (t : Int)
  have hsd := srt_drop hs (ff t l)
  unfold nearA
  by_cases c0 : ff t l = 0
  · rw [if_pos c0, c0, List.take_zero, List.drop_zero]
    rw [c0, List.drop_zero] at hge hsd
    cases l with
    | nil => rfl
    | cons q l' =>
      have hp := List.pairwise_cons.mp hs
      show nI q.1 = iZ (l'.foldl (nrF t) (nrF t (-1) q))
      have e : nrF t (-1) q = (q.1 : Int) := by unfold nrF; rw [if_pos (Or.inl rfl)]
      rw [e, nr_stay l' q.1 (by omega) (fun y hy => by
        have := hp.1 y hy
        have := hge q (by simp)
        omega), iZ_nat]
  · rw [if_neg c0]
    have hpv := pv_mem (l := l) (i := ff t l) (by omega) hle
    have hgl : (l.take (ff t l)).getLast? = some (pv l (ff t l)) := by
      rw [List.getLast?_eq_getElem?, List.length_take, show min (ff t l) l.length - 1 = ff t l - 1 by omega, List.getElem?_take_of_lt (by omega), hpv]
    rw [hgl]
    dsimp only
    have hpt : ((pv l (ff t l)).1 : Int) < t := (ff_iff hs (t : Int) hpv).mpr (by omega)
    by_cases c1 : ff t l = l.length
    · rw [if_pos c1, List.drop_eq_nil_of_le (by omega), ← iZ_nat]; rfl
    · rw [if_neg c1]
      obtain ⟨q, hq⟩ := get_some (l := l) (i := ff t l) (by omega)
      have hqt := (ff_spec (t : Int) l).2 q hq
      have hq2 := h2 q (List.mem_of_getElem? hq)
      rw [hq, drop_get hq]
      rw [drop_get hq] at hge hsd
      have hp := List.pairwise_cons.mp hsd
      dsimp only
      show (if nI q.1 - nI t < nI t - nI (pv l (ff t l)).1 then nI q.1 else nI (pv l (ff t l)).1) = iZ ((l.drop (ff t l + 1)).foldl (nrF t) (nrF t (pv l (ff t l)).1 q))
      have e1 : nI q.1 - nI t = iZ ((q.1 : Int) - t) := by rw [← iZ_nat, ← iZ_nat, iZ_sub]
      have e2 : nI t - nI (pv l (ff t l)).1 = iZ ((t : Int) - (pv l (ff t l)).1) := by rw [← iZ_nat, ← iZ_nat, iZ_sub]
      have hc : iZ ((q.1 : Int) - t) < iZ ((t : Int) - (pv l (ff t l)).1) ↔ (q.1 : Int) - t < (t : Int) - (pv l (ff t l)).1 := by
        rw [fa_lt, iZ_toInt (by omega) (by omega), iZ_toInt (by omega) (by omega)]
      rw [e1, e2]
      by_cases c2 : (q.1 : Int) - t < (t : Int) - (pv l (ff t l)).1
      · have e : nrF t (pv l (ff t l)).1 q = (q.1 : Int) := by unfold nrF; rw [if_pos (Or.inr (by omega))]
        rw [if_pos (hc.mpr c2), e, nr_stay _ q.1 (by omega) (fun y hy => by have := hp.1 y hy; omega), iZ_nat]
      · have e : nrF t (pv l (ff t l)).1 q = ((pv l (ff t l)).1 : Int) := by unfold nrF; rw [if_neg (by omega)]
        rw [if_neg (fun z => c2 (hc.mp z)), e, nr_stay _ _ (by omega) (fun y hy => by have := hp.1 y hy; omega), iZ_nat]
theorem abs_ok {z : Int} (h1 : -9223372036854775807 ≤ z) (h2 : z < 9223372036854775808) : F_J9_abs_067f4 (lZ z) = some (lZ z.natAbs) := by
  unfold F_J9_abs_067f4 f_J9_abs_067f4
  have c : 0 ≤ lg_cmp (lZ z) (0 : Int64) ↔ 0 ≤ z := by
    rw [lg_cmp_ge, fa_le64, lZ_toInt (by omega) h2]; rfl
  by_cases d : 0 ≤ z
  · rw [if_pos (c.mpr d), show ((z.natAbs : Nat) : Int) = z by omega]
  · rw [if_neg (fun e => d (c.mp e)), show ((z.natAbs : Nat) : Int) = -z by omega]
    congr 1
    have : lZ 0 - lZ z = lZ (0 - z) := lZ_sub 0 z
    rw [show -z = 0 - z by omega, ← this]
    show -lZ z = 0 - lZ z
    rw [Int64.zero_sub]
theorem foldI_foldl {α β : Type} (f : β → α → β) : ∀ (l : List α) (i : Nat) (x : β), foldI (fun x _ a => f x a) x i l = l.foldl f x
  | [], _, _ => rfl
  | a :: l, i, x => foldI_foldl f l (i + 1) (f x a)
theorem mnearest_ok {K : Kn} {m : Mem} {A : Nat} {s : St} (hok : stOk s) (h : RM K m A s) (x t : Int32) : okM K m A (F_X9_nearest K m A x t) (aNearest s x t) s := by
  unfold F_X9_nearest f_X9_nearest aNearest
  rcases isAsked_ok hok h x t with ⟨hs, hn⟩ | ⟨S, hs, hn⟩
  · rw [hn, hs, bind_e, if_pos rfl]; exact okM.same h
  · rw [hn, hs, bind_e]
    dsimp only
    by_cases ct : stm t = true
    · rw [if_pos ct, if_pos ct, if_neg (by decide)]
      obtain ⟨m1, r1, r2, r3, ⟨g1, g2⟩, r5, hS, g3, g4⟩ := gathM hok h hs
      obtain ⟨T, hT, rfl, hti⟩ := stm_nI ct
      rw [r1, bind_e, nI_clamp (by omega)]
      have hlen := g2.2.1
      have := scanT 0 (allP S) (fun n (y : Int) i => f_X9_nearest_24 K A x (nI T) n m1 (lZ y) (nI i)) (fun y _ q => nrF T y q) (fun y => -1 ≤ y ∧ y ≤ 2000000000) (fun y => some (iZ y, m1)) (fun y i q _ hq hy => by
        have := g4 q (List.mem_of_getElem? hq)
        unfold nrF
        split
        · exact ⟨by omega, by omega⟩
        · exact hy) (fun n y i q h1 hq hy => ?_) (fun n y i hi hi2 hy => ?_) FU 0 (-1) (Nat.le_refl _) (by omega) (by rw [FU_e]; omega) ⟨by decide, by decide⟩
      · have e : f_X9_nearest_24 K A x (nI T) FU m1 (-1 : Int64) (0 : Int32) = _ := this
        rw [e, List.drop_zero, near_rel g3 g4 hT, foldI_foldl]
        exact okM.kp hok h r2
      · obtain ⟨a1, a2, a3, a4, a5⟩ := al_at g1 g2 hq
        have hq2 := g4 q (List.mem_of_getElem? hq)
        show f_X9_nearest_24B K A x (nI T) (f_X9_nearest_24 K A x (nI T) n) m1 (lZ y) (nI i) = _
        unfold f_X9_nearest_24B f_X9_nearest_65 f_X9_nearest_70 f_X9_nearest_88
        rw [if_neg a1]
        simp only [a2, a4, bind_e, bd_e, nI_1, if_neg (show ¬ ((1 : Int32) = 0) by decide), if_true]
        rw [nI_long (by omega)]
        have hc1 : lg_cmp (lZ y) (-1 : Int64) = 0 ↔ y = -1 := by
          rw [lg_cmp_eq, fa_eq64, lZ_toInt (by omega) (by omega)]; rfl
        have ed : lN q.1 - lN T = lZ ((q.1 : Int) - T) := by rw [← lZ_nat, ← lZ_nat, lZ_sub]
        have ed2 : lZ y - lN T = lZ (y - T) := by rw [← lZ_nat, lZ_sub]
        rw [ed, ed2, abs_ok (by omega) (by omega), bind_e, abs_ok (by omega) (by omega), bind_e]
        have hc2 : 0 ≤ lg_cmp (lZ (((q.1 : Int) - T).natAbs : Int)) (lZ ((y - T).natAbs : Int)) ↔ ¬ ((q.1 : Int) - T).natAbs < (y - T).natAbs := by
          rw [lg_cmp_ge, fa_le64, lZ_toInt (by omega) (by omega), lZ_toInt (by omega) (by omega)]; omega
        unfold nrF
        by_cases c : y = -1
        · rw [if_pos (hc1.mpr c), if_pos (Or.inl c), ← lZ_nat]
        · rw [if_neg (fun z => c (hc1.mp z))]
          by_cases c2 : ((q.1 : Int) - T).natAbs < (y - T).natAbs
          · rw [if_neg (fun z => hc2.mp z c2), if_pos (Or.inr c2), ← lZ_nat]
          · rw [if_pos (hc2.mpr c2), if_neg (fun z => z.elim c c2)]
      · show f_X9_nearest_24B K A x (nI T) (f_X9_nearest_24 K A x (nI T) n) m1 (lZ y) (nI i) = _
        unfold f_X9_nearest_24B
        rw [if_pos (al_end g2 hi hi2), lZ_toI]
    · rw [if_neg ct, if_neg ct, if_pos rfl]; exact okM.same h
/-- a span of what is gathered -/
def spM (K : Kn) (m : Mem) (A a : Nat) (sp : List Pt) : Prop := MS K m A ∧ gI m A 36 = nI a ∧ gI m A 37 = nI (a + sp.length) ∧ a + sp.length ≤ 12040 ∧ ∀ (i : Nat) (x : Pt), sp[i]? = some x → gJ m (A + 19) (a + i) = lN x.1 ∧ gJ m (A + 20) (a + i) = x.2
theorem laysM {K : Kn} {m : Mem} {A j : Nat} {S : Sr} (h : MS K m A) (hj : j < 4) (hS : srOk S) (hm : smR m A j S) {f t : Int32} (hft : ¬ t < f) : ∃ m' a, F_X9_laysSpan K m A (nI j) f t = some m' ∧ KP A m m' ∧ spM K m' A a (spanP S f.toInt t.toInt) ∧ alM m' A (allP S) (QW S.2.2.2 S.2.2.1) ∧ spanP S f.toInt t.toInt = ((allP S).drop a).take (spanP S f.toInt t.toInt).length ∧ a ≤ (allP S).length ∧ a + (spanP S f.toInt t.toInt).length ≤ (allP S).length ∧ a = ff f.toInt (allP S) := by
  obtain ⟨m1, r1, r2, r3, r4⟩ := gathers_ok h hj hS hm
  have g1 := h.on r2.1
  have g3 := (allP_spec hS).1
  have g4 := allP_le hS
  have fb1 := i32b f
  have fb2 := i32b t
  have hft' : f.toInt ≤ t.toInt := by
    rw [fa_lt] at hft; omega
  unfold F_X9_laysSpan f_X9_laysSpan
  rw [r1, bind_e, iL, iL, firstNot_ok g1 r4 g3 g4 (by omega) (by omega), bind_e, bd_e, lZ_1]
  have f1 : fr (fun a k => a = A ∧ k = 36) m1 (sI m1 A 36 (nI (ff f.toInt (allP S)))) := fr_sI ⟨rfl, rfl⟩
  have al1 := r4.on f1 (fun z => by omega) (fun a i _ _ z => by omega)
  rw [firstNot_ok (g1.on f1) al1 g3 g4 (by omega) (by omega), bind_e, bd_e]
  have f2 : fr (fun a k => a = A ∧ (k = 36 ∨ k = 37)) m1 (sI (sI m1 A 36 (nI (ff f.toInt (allP S)))) A 37 (nI (ff (t.toInt + 1) (allP S)))) := (f1.mono (fun a k z => ⟨z.1, Or.inl z.2⟩)).trans (fr_sI ⟨rfl, Or.inr rfl⟩)
  have al2 := r4.on f2 (fun z => by omega) (fun a i _ _ z => by omega)
  have hmo := ff_mono (l := allP S) (f := f.toInt) (t := t.toInt + 1) (by omega)
  have hle := ff_le (t.toInt + 1) (allP S)
  have esp : spanP S f.toInt t.toInt = ((allP S).drop (ff f.toInt (allP S))).take (ff (t.toInt + 1) (allP S) - ff f.toInt (allP S)) := by
    unfold spanP; exact slice_e g3
  have elen : (spanP S f.toInt t.toInt).length = ff (t.toInt + 1) (allP S) - ff f.toInt (allP S) := by
    rw [esp, List.length_take, List.length_drop]; omega
  have hall := r4.2.1
  refine ⟨_, ff f.toInt (allP S), rfl, r2.trans (KP.of f2 (fun a k z => by omega)), ⟨g1.on f2, ?_, ?_, by omega, fun i x hx => ?_⟩, al2, ?_, by omega, by omega, rfl⟩
  · rw [gI_sI_n (Or.inr (by decide)), gI_sI_s]
  · rw [gI_sI_s, elen, Nat.add_sub_cancel' hmo]
  · rw [esp] at hx
    have hil := (List.getElem?_eq_some_iff.mp hx).1
    rw [List.length_take] at hil
    have hil : i < ff (t.toInt + 1) (allP S) - ff f.toInt (allP S) := by omega
    rw [List.getElem?_take_of_lt hil, List.getElem?_drop] at hx
    obtain ⟨e1, e2, -⟩ := al2.2.2 _ x hx
    exact ⟨e1, e2⟩
  · rw [elen]; exact esp
theorem sp_at {K : Kn} {m : Mem} {A a : Nat} {sp : List Pt} (h : spM K m A a sp) {i : Nat} {x : Pt} (hx : sp[i]? = some x) : (¬ gI m A 37 ≤ nI (a + i)) ∧ ldA K m A 30 1 = some (A + 19) ∧ ldA K m A 31 1 = some (A + 20) ∧ alJ K m (A + 19) (nI (a + i)) = some (lN x.1) ∧ alJ K m (A + 20) (nI (a + i)) = some x.2 := by
  obtain ⟨h1, h2, h3, h4, h5⟩ := h
  have hi := (List.getElem?_eq_some_iff.mp hx).1
  obtain ⟨e1, e2⟩ := h5 i x hx
  refine ⟨?_, h1.d30, h1.d31, ?_, ?_⟩
  · rw [h3]
    exact fun z => by have := (nI_leI (by omega) (by omega)).mp z; omega
  · rw [h1.g30 (by omega), e1]
  · rw [h1.g31 (by omega), e2]
theorem sp_end {K : Kn} {m : Mem} {A a : Nat} {sp : List Pt} (h : spM K m A a sp) {i : Nat} (h1 : sp.length ≤ i) (h2 : i ≤ sp.length + 1) : gI m A 37 ≤ nI (a + i) := by
  have := h.2.2.2.1
  rw [h.2.2.1]
  exact (nI_leI (by omega) (by omega)).mpr (by omega)
theorem foldI_filter {α β : Type} (p : α → Bool) (f : β → α → β) : ∀ (l : List α) (i : Nat) (x : β), foldI (fun x _ a => if p a = true then f x a else x) x i l = (l.filter p).foldl f x
  | [], _, _ => rfl
  | a :: l, i, x => by
    show foldI _ (if p a = true then f x a else x) (i + 1) l = _
    rw [foldI_filter p f l (i + 1)]
    by_cases c : p a = true
    · rw [if_pos c, List.filter_cons_of_pos c]; rfl
    · rw [if_neg c, List.filter_cons_of_neg c]
theorem mabove_ok {K : Kn} {m : Mem} {A : Nat} {s : St} (hok : stOk s) (h : RM K m A s) (x f t : Int32) (v : Int64) : okM K m A (F_X9_above K m A x f t v) (aAbove s x f t v) s := by
  unfold F_X9_above f_X9_above aAbove
  rcases isSpan_ok hok h x f t with ⟨hs, hn⟩ | ⟨S, hs, hn⟩
  · rw [hn, hs, bind_e, if_pos rfl]; exact okM.same h
  · rw [hn, hs, bind_e]
    dsimp only
    by_cases c0 : t < f
    · rw [if_pos c0, if_pos rfl, if_neg (fun z => (nlt32.mpr z) c0)]; exact okM.same h
    rw [if_neg c0, if_neg (by decide), if_pos (nlt32.mp c0), isNumM, bind_e]
    by_cases cv : isN v = true
    · rw [if_pos cv, if_pos cv, if_neg (by decide)]
      obtain ⟨j, hj, rfl, hsj, hS, hm⟩ := h.at hok hs
      obtain ⟨m1, a, r1, r2, r3, -⟩ := laysM h.1 hj hS hm c0
      rw [r1, bind_e, bd_e, r3.2.1]
      have hb := r3.2.2.2.1
      have := scanT 0 (spanP S f.toInt t.toInt) (fun n (y : Int32) i => f_X9_above_39 K A (nI j) f t v n m1 y (nI (a + i))) (fun y _ q => if isN q.2 = true then (if decide (ordA v < ordA q.2) = true then y + 1 else y) else y) (fun _ => True) (fun y => some (y, m1)) (fun _ _ _ _ _ _ => trivial) (fun n y i q h1 hq _ => ?_) (fun n y i hi hi2 _ => ?_) FU 0 0 (Nat.le_refl _) (by omega) (by rw [FU_e]; omega) trivial
      · have e : f_X9_above_39 K A (nI j) f t v FU m1 (0 : Int32) (nI a) = _ := this
        rw [e, List.drop_zero]
        have e2 : foldI (fun (y : Int32) _ (q : Pt) => if isN q.2 = true then (if decide (ordA v < ordA q.2) = true then y + 1 else y) else y) 0 0 (spanP S f.toInt t.toInt) = cntA (fun b => decide (ordA v < ordA b)) (numP S f.toInt t.toInt) := by
          rw [foldI_filter (fun q : Pt => isN q.2) (fun (y : Int32) q => if decide (ordA v < ordA q.2) = true then y + 1 else y)]
          unfold cntA numP
          rw [foldI_foldl (fun (y : Int32) (q : Pt) => if decide (ordA v < ordA q.2) = true then y + 1 else y)]
        rw [e2]
        exact okM.kp hok h r2
      · obtain ⟨a1, a2, a3, a4, a5⟩ := sp_at r3 hq
        show f_X9_above_39B K A (nI j) f t v (f_X9_above_39 K A (nI j) f t v n) m1 y (nI (a + i)) = _
        unfold f_X9_above_39B f_X9_above_82 f_X9_above_83
        rw [if_neg a1]
        simp only [a3, a5, bind_e, bd_e, nI_1, isNumM, add_0]
        cases c1 : isN q.2 with
        | false => rw [if_neg (by decide : ¬ (false = true)), if_pos rfl, if_neg (by decide)]; rfl
        | true =>
          rw [if_pos rfl, if_neg (by decide), isLess_ok cv c1, bind_e, if_pos rfl]
          by_cases d : ordA v < ordA q.2
          · rw [if_pos d, if_neg (by decide), if_pos (decide_eq_true d)]; rfl
          · rw [if_neg d, if_pos rfl, if_neg (by rw [decide_eq_false d]; decide)]; rfl
      · show f_X9_above_39B K A (nI j) f t v (f_X9_above_39 K A (nI j) f t v n) m1 y (nI (a + i)) = _
        unfold f_X9_above_39B
        rw [if_pos (sp_end r3 hi hi2)]
    · rw [if_neg cv, if_neg cv, if_pos rfl]; exact okM.same h
