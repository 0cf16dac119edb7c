/-! ===== calls of the reference over spans: span, value, area, least ===== -/
def spF (y : Int32 × Int32 × Int32) (q : Pt) : Int32 × Int32 × Int32 := ((if isN q.2 = true then y.1 else y.1 + 1), (if q.2 = -9223372036854775808 then y.2.1 + 1 else y.2.1), (if isI q.2 = true then y.2.2 + 1 else y.2.2))
theorem spF_cnt : ∀ (l : List Pt) (y : Int32 × Int32 × Int32), l.foldl spF y = (l.foldl (fun (x : Int32) (q : Pt) => if (!(isN q.2)) = true then x + 1 else x) y.1, l.foldl (fun (x : Int32) (q : Pt) => if decide (q.2 = -9223372036854775808) = true then x + 1 else x) y.2.1, l.foldl (fun (x : Int32) (q : Pt) => if isI q.2 = true then x + 1 else x) y.2.2)
  | [], _ => rfl
  | q :: l, y => by
    show l.foldl spF (spF y q) = _
    rw [spF_cnt l (spF y q)]
    unfold spF
    simp only [List.foldl_cons]
    have e1 : (if isN q.2 = true then y.1 else y.1 + 1) = (if (!(isN q.2)) = true then y.1 + 1 else y.1) := by cases isN q.2 <;> rfl
    have e2 : (if q.2 = -9223372036854775808 then y.2.1 + 1 else y.2.1) = (if decide (q.2 = -9223372036854775808) = true then y.2.1 + 1 else y.2.1) := by
      by_cases c : q.2 = -9223372036854775808
      · rw [if_pos c, decide_eq_true c, if_pos rfl]
      · rw [if_neg c, decide_eq_false c, if_neg (by decide)]
    rw [e1, e2]
theorem mspan_ok {K : Kn} {m : Mem} {A : Nat} {s : St} (hok : stOk s) (h : RM K m A s) (x f t w : Int32) : okM K m A (F_X9_span K m A x f t w) (aSpan s x f t w) s := by
  unfold F_X9_span f_X9_span aSpan
  rcases isSpan_ok hok h x f t with ⟨hs, hn⟩ | ⟨S, hs, hn⟩
  · rw [hn, hs, bind_e, if_pos rfl]; exact okM.same h
  · rw [hn, hs, bind_e]
    dsimp only
    by_cases c0 : t < f
    · rw [if_pos c0, if_pos rfl, if_pos c0]; exact okM.same h
    rw [if_neg c0, if_neg (by decide), if_neg c0]
    rcases in_w 6 (by decide) w with ⟨hi, c1 | ⟨c1, c2⟩⟩ | ⟨hi, c1, c2⟩
    · have hi : F_X9_in w.toInt64 (0 : Int64) (6 : Int64) = some 0 := hi
      rw [hi, bind_e, if_pos rfl, if_pos c1]; exact okM.same h
    · have hi : F_X9_in w.toInt64 (0 : Int64) (6 : Int64) = some 0 := hi
      have c2 : ¬ w ≤ (6 : Int32) := c2
      rw [hi, bind_e, if_pos rfl, if_neg c1, if_neg c2]; exact okM.same h
    · have hi : F_X9_in w.toInt64 (0 : Int64) (6 : Int64) = some 1 := hi
      have c2 : w ≤ (6 : Int32) := c2
      rw [hi, bind_e, if_neg (by decide), if_neg c1, if_pos c2]
      obtain ⟨j, hj, rfl, hsj, hS, hm⟩ := h.at hok hs
      obtain ⟨m0, q1, q2, q3, q4⟩ := openedM hj hS h.1 hm f t
      obtain ⟨m1, a, r1, r2, r3, -⟩ := laysM q3 hj hS q4 c0
      rw [q1, bind_e, bd_e]
      dsimp only
      rw [r1, bind_e, bd_e, r3.2.1]
      have hb := r3.2.2.2.1
      have hkp := q2.trans r2
      have := scanT 0 (spanP S f.toInt t.toInt) (fun n (y : Int32 × Int32 × Int32) i => f_X9_span_57 K A (nI j) f t w n m1 (opdA S.2.2.2 f.toInt t.toInt) y.1 y.2.1 y.2.2 (nI (a + i))) (fun y _ q => spF y q) (fun _ => True) (fun y => f_X9_span_163 K A (nI j) f t w m1 (opdA S.2.2.2 f.toInt t.toInt) y.1 y.2.1 y.2.2 (if (spanP S f.toInt t.toInt).length = 0 then 0 else 1)) (fun _ _ _ _ _ _ => trivial) (fun n y i q h1 hq _ => ?_) (fun n y i hi hi2 _ => ?_) FU 0 (0, 0, 0) (Nat.le_refl _) (by omega) (by rw [FU_e]; omega) trivial
      · have e : f_X9_span_57 K A (nI j) f t w FU m1 (opdA S.2.2.2 f.toInt t.toInt) (0 : Int32) (0 : Int32) (0 : Int32) (nI a) = _ := this
        rw [e, List.drop_zero, foldI_foldl, spF_cnt]
        have hcnt : ∀ p : Int64 → Bool, (spanP S f.toInt t.toInt).foldl (fun (x : Int32) (q : Pt) => if p q.2 = true then x + 1 else x) 0 = cntA p (spanP S f.toInt t.toInt) := fun p => by
          unfold cntA
          rw [foldI_foldl (fun (x : Int32) (q : Pt) => if p q.2 = true then x + 1 else x)]
        have h1c := hcnt (fun b => !(isN b))
        have h2c := hcnt (fun b => decide (b = -9223372036854775808))
        have h3c := hcnt isI
        rw [h1c, h2c, h3c]
        unfold f_X9_span_163 f_X9_span_204 f_X9_span_214 f_X9_span_217 f_X9_span_237 f_X9_span_259 f_X9_span_262 f_X9_span_265
        dsimp only
        have hf : ∀ v : Int32, okM K m A (some (v, m1)) v s := fun v => okM.kp hok h hkp
        obtain ⟨s1, s2, s3, s4, s5⟩ := r3
        by_cases w0 : w = 0
        · subst w0
          rw [if_pos rfl, if_neg (by decide), if_pos rfl, s2, s3, pk_sub (by omega), Nat.add_sub_cancel_left]; exact hf _
        rw [if_neg w0, if_neg w0]
        by_cases w1 : w = 1
        · rw [if_pos w1, if_pos w1]; exact hf _
        rw [if_neg w1, if_neg w1]
        by_cases w2 : w = 2
        · rw [if_pos w2, if_pos w2]
          unfold frstA
          by_cases ce : (spanP S f.toInt t.toInt).length = 0
          · rw [if_pos ce, if_pos rfl, List.getElem?_eq_none (by omega)]; exact hf _
          · obtain ⟨q, hq⟩ := get_some (l := spanP S f.toInt t.toInt) (i := 0) (by omega)
            rw [if_neg ce, if_neg (by decide), s1.d30, bind_e, s2, s1.g30 (by omega), bind_e, hq, show gJ m1 (A + 19) a = lN q.1 from (s5 0 q hq).1, l2i_lN]; exact hf _
        rw [if_neg w2, if_neg w2]
        by_cases w3 : w = 3
        · rw [if_pos w3, if_pos w3]
          unfold lastA
          by_cases ce : (spanP S f.toInt t.toInt).length = 0
          · rw [if_pos ce, if_pos rfl, List.getLast?_eq_getElem?, List.getElem?_eq_none (by omega)]; exact hf _
          · obtain ⟨q, hq⟩ := get_some (l := spanP S f.toInt t.toInt) (i := (spanP S f.toInt t.toInt).length - 1) (by omega)
            rw [if_neg ce, if_neg (by decide), s1.d30, bind_e, s3, show (1 : Int32) = nI 1 from rfl, pk_sub (by omega), show a + (spanP S f.toInt t.toInt).length - 1 = a + ((spanP S f.toInt t.toInt).length - 1) by omega, s1.g30 (by omega), bind_e, List.getLast?_eq_getElem?, hq, (s5 _ q hq).1, l2i_lN]; exact hf _
        rw [if_neg w3, if_neg w3]
        by_cases w4 : w = 4
        · have : kindC w = fun b => !(isN b) := by unfold kindC; funext b; rw [if_pos w4]
          rw [if_pos w4, this]; exact hf _
        rw [if_neg w4]
        by_cases w5 : w = 5
        · have : kindC w = fun b => decide (b = -9223372036854775808) := by unfold kindC; funext b; rw [if_neg w4, if_pos w5]
          rw [if_pos w5, this]; exact hf _
        · have : kindC w = isI := by unfold kindC; funext b; rw [if_neg w4, if_neg w5]
          rw [if_neg w5, this]; exact hf _
      · obtain ⟨a1, a2, a3, a4, a5⟩ := sp_at r3 hq
        show f_X9_span_57B K A (nI j) f t w (f_X9_span_57 K A (nI j) f t w n) m1 (opdA S.2.2.2 f.toInt t.toInt) y.1 y.2.1 y.2.2 (nI (a + i)) = _
        unfold f_X9_span_57B f_X9_span_86 f_X9_span_110 f_X9_span_138
        rw [if_neg a1]
        simp only [a3, a5, bind_e, bd_e, nI_1, isNumM, add_0]
        unfold spF isI
        have i1 : lg_cmp q.2 (-9223372036854775808 : Int64) = 0 ↔ q.2 = -9223372036854775808 := lg_cmp_eq _ _
        have i2 : lg_cmp (q.2 &&& (9223372036854775807 : Int64)) (9218868437227405312 : Int64) = 0 ↔ (q.2 &&& (9223372036854775807 : Int64)) = (9218868437227405312 : Int64) := lg_cmp_eq _ _
        have i2' : decide ((q.2 &&& (9223372036854775807 : Int64)) = (9218868437227405312 : Int64)) = true ↔ (q.2 &&& (9223372036854775807 : Int64)) = (9218868437227405312 : Int64) := decide_eq_true_iff
        cases c3 : isN q.2 with
        | false =>
          rw [if_neg (by decide : ¬ (false = true)), if_pos rfl]
          by_cases c4 : q.2 = -9223372036854775808
          · rw [if_pos (i1.mpr c4)]
            by_cases c5 : (q.2 &&& (9223372036854775807 : Int64)) = (9218868437227405312 : Int64)
            · rw [if_pos (i2.mpr c5), if_neg (by decide), if_pos c4, if_pos (i2'.mpr c5)]; rfl
            · rw [if_neg (fun z => c5 (i2.mp z)), if_neg (by decide), if_pos c4, if_neg (fun z => c5 (i2'.mp z))]; rfl
          · rw [if_neg (fun z => c4 (i1.mp z))]
            by_cases c5 : (q.2 &&& (9223372036854775807 : Int64)) = (9218868437227405312 : Int64)
            · rw [if_pos (i2.mpr c5), if_neg (by decide), if_neg c4, if_pos (i2'.mpr c5)]; rfl
            · rw [if_neg (fun z => c5 (i2.mp z)), if_neg (by decide), if_neg c4, if_neg (fun z => c5 (i2'.mp z))]; rfl
        | true =>
          rw [if_pos rfl, if_neg (by decide)]
          by_cases c4 : q.2 = -9223372036854775808
          · rw [if_pos (i1.mpr c4)]
            by_cases c5 : (q.2 &&& (9223372036854775807 : Int64)) = (9218868437227405312 : Int64)
            · rw [if_pos (i2.mpr c5), if_pos rfl, if_pos c4, if_pos (i2'.mpr c5)]; rfl
            · rw [if_neg (fun z => c5 (i2.mp z)), if_pos rfl, if_pos c4, if_neg (fun z => c5 (i2'.mp z))]; rfl
          · rw [if_neg (fun z => c4 (i1.mp z))]
            by_cases c5 : (q.2 &&& (9223372036854775807 : Int64)) = (9218868437227405312 : Int64)
            · rw [if_pos (i2.mpr c5), if_pos rfl, if_neg c4, if_pos (i2'.mpr c5)]; rfl
            · rw [if_neg (fun z => c5 (i2.mp z)), if_pos rfl, if_neg c4, if_neg (fun z => c5 (i2'.mp z))]; rfl
      · show f_X9_span_57B K A (nI j) f t w (f_X9_span_57 K A (nI j) f t w n) m1 (opdA S.2.2.2 f.toInt t.toInt) y.1 y.2.1 y.2.2 (nI (a + i)) = _
        unfold f_X9_span_57B
        rw [if_pos (sp_end r3 hi hi2), r3.2.1, r3.2.2.1]
        by_cases ce : (spanP S f.toInt t.toInt).length = 0
        · rw [if_pos ((nI_leI (by omega) (by omega)).mpr (by omega)), if_pos ce]
        · rw [if_neg (fun z => by have := (nI_leI (by omega) (by omega)).mp z; omega), if_neg ce]
/-- the one of two that is asked for -/
def pkA (w : Int32) (v : Int64) (q : Pt) : Int64 := if w = 1 ∨ (w = 2 ∧ ordA q.2 < ordA v) ∨ (w = 3 ∧ ordA v < ordA q.2) then q.2 else v
def mvF (w : Int32) (y : Option Int64 × Int64) (q : Pt) : Option Int64 × Int64 := (some (match y.1 with
  | none => q.2
  | some v => pkA w v q), addA y.2 q.2)
theorem mvF_some (w : Int32) : ∀ (l : List Pt) (v y : Int64), l.foldl (mvF w) (some v, y) = (some (l.foldl (pkA w) v), totA l y)
  | [], _, _ => rfl
  | q :: l, v, y => mvF_some w l (pkA w v q) (addA y q.2)
theorem pk_last (w : Int32) (hw : w = 1) : ∀ (l : List Pt) (q : Pt), l.foldl (pkA w) q.2 = ((q :: l).getLast?.getD (0, 0)).2
  | [], q => rfl
  | z :: l, q => by
    show l.foldl (pkA w) (pkA w q.2 z) = _
    have : pkA w q.2 z = z.2 := by unfold pkA; rw [if_pos (Or.inl hw)]
    rw [this, pk_last w hw l z, List.getLast?_cons_cons]
theorem pk_first (w : Int32) (hw : w ≠ 1 ∧ w ≠ 2 ∧ w ≠ 3) : ∀ (l : List Pt) (v : Int64), l.foldl (pkA w) v = v
  | [], _ => rfl
  | z :: l, v => by
    show l.foldl (pkA w) (pkA w v z) = _
    have : pkA w v z = v := by
      unfold pkA
      rw [if_neg (fun h => h.elim hw.1 (fun h => h.elim (fun h => hw.2.1 h.1) (fun h => hw.2.2 h.1)))]
    rw [this, pk_first w hw l v]
theorem mvalue_ok {K : Kn} {m : Mem} {A : Nat} {s : St} (hok : stOk s) (h : RM K m A s) (x f t w : Int32) : okM K m A (F_X9_value K m A x f t w) (aValue s x f t w) s := by
  unfold F_X9_value f_X9_value aValue
  rw [show (9221120237041090560 : Int64) = nanW from rfl]
  rcases isSpan_ok hok h x f t with ⟨hs, hn⟩ | ⟨S, hs, hn⟩
  · rw [hn, hs, bind_e, if_pos rfl]; exact okM.same h
  · rw [hn, hs, bind_e]
    dsimp only
    by_cases c0 : t < f
    · rw [if_pos c0, if_pos rfl, if_pos c0]; exact okM.same h
    rw [if_neg c0, if_neg (by decide), if_neg c0]
    rcases in_w 4 (by decide) w with ⟨hi, c1 | ⟨c1, c2⟩⟩ | ⟨hi, c1, c2⟩
    · have hi : F_X9_in w.toInt64 (0 : Int64) (4 : Int64) = some 0 := hi
      rw [hi, bind_e, if_pos rfl, if_pos c1]; exact okM.same h
    · have hi : F_X9_in w.toInt64 (0 : Int64) (4 : Int64) = some 0 := hi
      have c2 : ¬ w ≤ (4 : Int32) := c2
      rw [hi, bind_e, if_pos rfl, if_neg c1, if_neg c2]; exact okM.same h
    · have hi : F_X9_in w.toInt64 (0 : Int64) (4 : Int64) = some 1 := hi
      have c2 : w ≤ (4 : Int32) := c2
      rw [hi, bind_e, if_neg (by decide), if_neg c1, if_pos c2]
      obtain ⟨j, hj, rfl, hsj, hS, hm⟩ := h.at hok hs
      obtain ⟨m1, a, r1, r2, r3, -⟩ := laysM h.1 hj hS hm c0
      rw [r1, bind_e, bd_e, r3.2.1]
      have hb := r3.2.2.2.1
      have h0N : isN (0 : Int64) = true := by decide
      rw [show FP.dconst0 = (0 : Int64).toUInt64 from by decide]
      have := scanT 0 (spanP S f.toInt t.toInt) (fun n (y : Option Int64 × Int64) i => f_X9_value_49 K A (nI j) f t w n m1 (if y.1 = none then 0 else 1) (y.1.getD 0) y.2.toUInt64 (nI (a + i))) (fun y _ q => if isN q.2 = true then mvF w y q else y) (fun y => isN (y.1.getD 0) = true ∧ (isN y.2 = true ∨ y.2 = nanW)) (fun y => some ((match y.1 with
        | none => nanW
        | some v => if w = 4 then y.2 else v), m1)) (fun y i q _ hq hy => by
          by_cases c : isN q.2 = true
          · rw [if_pos c]
            refine ⟨?_, addA_num⟩
            show isN ((some (match y.1 with
              | none => q.2
              | some v => pkA w v q)).getD 0) = true
            cases hy1 : y.1 with
            | none => exact c
            | some v =>
              rw [hy1] at hy
              show isN (pkA w v q) = true
              unfold pkA
              split
              · exact c
              · exact hy.1
          · rw [if_neg c]; exact hy) (fun n y i q h1 hq hy => ?_) (fun n y i hi hi2 hy => ?_) FU 0 (none, 0) (Nat.le_refl _) (by omega) (by rw [FU_e]; omega) ⟨h0N, Or.inl h0N⟩
      · have e : f_X9_value_49 K A (nI j) f t w FU m1 (0 : Int32) (0 : Int64) ((0 : Int64).toUInt64) (nI a) = _ := this
        rw [e, List.drop_zero, foldI_filter (fun q : Pt => isN q.2) (mvF w)]
        have hnp : (spanP S f.toInt t.toInt).filter (fun q : Pt => isN q.2) = numP S f.toInt t.toInt := rfl
        rw [hnp]
        have hf : ∀ v : Int64, okM K m A (some (v, m1)) v s := fun v => okM.kp hok h r2
        cases hN : numP S f.toInt t.toInt with
        | nil => exact hf _
        | cons q l =>
          show okM K m A (some ((match (l.foldl (mvF w) (mvF w (none, 0) q)).1 with
            | none => nanW
            | some v => if w = 4 then (l.foldl (mvF w) (mvF w (none, 0) q)).2 else v), m1)) _ s
          have e0 : mvF w (none, 0) q = (some q.2, addA 0 q.2) := rfl
          rw [e0, mvF_some]
          dsimp only
          have etot : totA l (addA 0 q.2) = totA (q :: l) 0 := rfl
          by_cases w0 : w = 0
          · rw [if_pos w0, if_neg (by rw [w0]; decide), pk_first w ⟨by rw [w0]; decide, by rw [w0]; decide, by rw [w0]; decide⟩]; exact hf _
          rw [if_neg w0]
          by_cases w1 : w = 1
          · rw [if_pos w1, if_neg (by rw [w1]; decide), pk_last w w1]; exact hf _
          rw [if_neg w1]
          by_cases w2 : w = 2
          · rw [if_pos w2, if_neg (by rw [w2]; decide)]
            have ew : l.foldl (pkA w) q.2 = leastA (q :: l) := by
              unfold leastA
              show _ = foldI leastF q.2 1 l
              unfold leastF
              rw [foldI_foldl (fun (c : Int64) (q : Pt) => if ordA q.2 < ordA c then q.2 else c)]
              congr 1
              funext v z
              unfold pkA
              by_cases d : ordA z.2 < ordA v
              · rw [if_pos (Or.inr (Or.inl ⟨w2, d⟩)), if_pos d]
              · rw [if_neg (fun h => h.elim w1 (fun h => h.elim (fun h => d h.2) (fun h => by rw [w2] at h; exact absurd h.1 (by decide)))), if_neg d]
            rw [ew]; exact hf _
          rw [if_neg w2]
          by_cases w3 : w = 3
          · rw [if_pos w3, if_neg (by rw [w3]; decide)]
            have ew : l.foldl (pkA w) q.2 = greatA (q :: l) := by
              unfold greatA
              show _ = foldI greatF q.2 1 l
              unfold greatF
              rw [foldI_foldl (fun (c : Int64) (q : Pt) => if ordA c < ordA q.2 then q.2 else c)]
              congr 1
              funext v z
              unfold pkA
              by_cases d : ordA v < ordA z.2
              · rw [if_pos (Or.inr (Or.inr ⟨w3, d⟩)), if_pos d]
              · rw [if_neg (fun h => h.elim w1 (fun h => h.elim (fun h => w2 h.1) (fun h => d h.2))), if_neg d]
            rw [ew]; exact hf _
          · rw [if_neg w3, etot]
            have w4 : w = 4 := by
              obtain ⟨n, hn2, rfl, -⟩ := idx_nI c1
              have c3 : n ≤ 4 := (nI_leI (b := 4) (by omega) (by omega)).mp c2
              rcases (show n = 0 ∨ n = 1 ∨ n = 2 ∨ n = 3 ∨ n = 4 by omega) with z | z | z | z | z <;> subst z
              · exact absurd rfl w0
              · exact absurd rfl w1
              · exact absurd rfl w2
              · exact absurd rfl w3
              · rfl
            rw [if_pos w4]; exact hf _
      · obtain ⟨a1, a2, a3, a4, a5⟩ := sp_at r3 hq
        show f_X9_value_49B K A (nI j) f t w (f_X9_value_49 K A (nI j) f t w n) m1 (if y.1 = none then 0 else 1) (y.1.getD 0) y.2.toUInt64 (nI (a + i)) = _
        unfold f_X9_value_49B
        rw [if_neg a1]
        simp only [a3, a5, bind_e, isNumM]
        by_cases c : isN q.2 = true
        · rw [if_pos c, if_neg (by decide), if_pos c]
          have e133 : ∀ b : Int64, f_X9_value_140 K A (nI j) f t w (f_X9_value_49 K A (nI j) f t w n) m1 y.2.toUInt64 (nI (a + i)) q.2 b = f_X9_value_49 K A (nI j) f t w n m1 1 b (addA y.2 q.2).toUInt64 (nI (a + i + 1)) := fun b => by
            unfold f_X9_value_140 f_X9_value_155
            rw [gd_t (snl_ok c), bd_e, nI_1]
            rfl
          have e121 : ∀ sg : Int32, f_X9_value_121 K A (nI j) f t w (f_X9_value_49 K A (nI j) f t w n) m1 (if y.1 = none then 0 else 1) (y.1.getD 0) y.2.toUInt64 (nI (a + i)) q.2 sg = f_X9_value_49 K A (nI j) f t w n m1 1 (if y.1 = none then q.2 else if sg = 0 then y.1.getD 0 else q.2) (addA y.2 q.2).toUInt64 (nI (a + i + 1)) := fun sg => by
            unfold f_X9_value_121 f_X9_value_133
            simp only [e133]
            by_cases cy : y.1 = none
            · simp only [if_pos cy, if_true]
            · simp only [if_neg cy, if_neg (show ¬ ((1 : Int32) = 0) by decide)]
              split <;> rfl
          have fin : ∀ sg : Int32, (y.1 ≠ none → (sg = 0 ↔ ¬ (w = 1 ∨ (w = 2 ∧ ordA q.2 < ordA (y.1.getD 0)) ∨ (w = 3 ∧ ordA (y.1.getD 0) < ordA q.2)))) → f_X9_value_121 K A (nI j) f t w (f_X9_value_49 K A (nI j) f t w n) m1 (if y.1 = none then 0 else 1) (y.1.getD 0) y.2.toUInt64 (nI (a + i)) q.2 sg = f_X9_value_49 K A (nI j) f t w n m1 (if (mvF w y q).1 = none then 0 else 1) ((mvF w y q).1.getD 0) (mvF w y q).2.toUInt64 (nI (a + (i + 1))) := fun sg hsg => by
            rw [e121]
            unfold mvF
            dsimp only
            rw [if_neg (by simp : ¬ (some _ = none))]
            cases hy1 : y.1 with
            | none => rfl
            | some v =>
              rw [hy1] at hsg
              have hsg : sg = 0 ↔ ¬ (w = 1 ∨ (w = 2 ∧ ordA q.2 < ordA v) ∨ (w = 3 ∧ ordA v < ordA q.2)) := hsg (by simp)
              rw [if_neg (by simp : ¬ (some v = none))]
              show f_X9_value_49 K A (nI j) f t w n m1 1 (if sg = 0 then v else q.2) _ _ = f_X9_value_49 K A (nI j) f t w n m1 1 (pkA w v q) _ _
              have : (if sg = 0 then v else q.2) = pkA w v q := by
                unfold pkA
                by_cases d : sg = 0
                · rw [if_pos d, if_neg (hsg.mp d)]
                · rw [if_neg d, if_pos (by
                    by_cases dd : (w = 1 ∨ (w = 2 ∧ ordA q.2 < ordA v) ∨ (w = 3 ∧ ordA v < ordA q.2))
                    · exact dd
                    · exact absurd (hsg.mpr dd) d)]
              rw [this]; rfl
          unfold f_X9_value_100 f_X9_value_116 f_X9_value_120
          rw [isLess_ok c hy.1, isLess_ok hy.1 c, bind_e, bind_e]
          by_cases w1 : w = 1
          · rw [if_pos w1]
            exact fin 1 (fun _ => ⟨fun z => absurd z (by decide), fun z => absurd (Or.inl w1) z⟩)
          rw [if_neg w1]
          by_cases w2 : w = 2
          · have w3 : ¬ w = 3 := by rw [w2]; decide
            rw [if_pos w2, if_neg w3]
            by_cases d : ordA q.2 < ordA (y.1.getD 0)
            · rw [if_pos d, if_neg (by decide)]
              exact fin 1 (fun _ => ⟨fun z => absurd z (by decide), fun z => absurd (Or.inr (Or.inl ⟨w2, d⟩)) z⟩)
            · rw [if_neg d, if_pos rfl]
              exact fin 0 (fun _ => ⟨fun _ h => h.elim w1 (fun h => h.elim (fun h => d h.2) (fun h => w3 h.1)), fun _ => rfl⟩)
          rw [if_neg w2]
          by_cases w3 : w = 3
          · rw [if_pos w3]
            by_cases d : ordA (y.1.getD 0) < ordA q.2
            · rw [if_pos d, if_neg (by decide)]
              exact fin 1 (fun _ => ⟨fun z => absurd z (by decide), fun z => absurd (Or.inr (Or.inr ⟨w3, d⟩)) z⟩)
            · rw [if_neg d, if_pos rfl]
              exact fin 0 (fun _ => ⟨fun _ h => h.elim w1 (fun h => h.elim (fun h => w2 h.1) (fun h => d h.2)), fun _ => rfl⟩)
          · rw [if_neg w3]
            exact fin 0 (fun _ => ⟨fun _ h => h.elim w1 (fun h => h.elim (fun h => w2 h.1) (fun h => w3 h.1)), fun _ => rfl⟩)
        · rw [if_neg c, if_pos rfl, if_neg c]
          unfold f_X9_value_155
          rw [bd_e, nI_1]
          rfl
      · show f_X9_value_49B K A (nI j) f t w (f_X9_value_49 K A (nI j) f t w n) m1 (if y.1 = none then 0 else 1) (y.1.getD 0) y.2.toUInt64 (nI (a + i)) = _
        unfold f_X9_value_49B
        rw [if_pos (sp_end r3 hi hi2)]
        cases hy1 : y.1 with
        | none => rw [if_pos rfl, if_pos rfl]; rfl
        | some v =>
          rw [if_neg (by simp : ¬ (some v = none)), if_neg (by decide)]
          dsimp only
          by_cases w4 : w = 4
          · rw [if_pos w4, if_pos w4, told_ok' hy.2, bind_e]
          · rw [if_neg w4, if_neg w4]; rfl
