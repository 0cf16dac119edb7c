/-! ===== calls of the reference over what is gathered ===== -/
theorem snl_ok {b : Int64} (h : isN b = true) : vn_snl2d b = false := by
  rw [isN_u, decide_eq_true_eq, b64_tails] at h
  unfold vn_snl2d
  have : ¬ (b.toUInt64 &&& 0x7fffffffffffffff > 0x7ff0000000000000) := by
    rw [gt_iff_lt, UInt64.lt_iff_toNat_lt, UInt64.toNat_and]
    show ¬ (9218868437227405312 < uN b &&& 9223372036854775807)
    rw [show (9223372036854775807 : Nat) = 2 ^ 63 - 1 from rfl, Nat.and_two_pow_sub_one_eq_mod]
    omega
  rw [decide_eq_false this, Bool.false_and]
theorem ord_key {b : Int64} (h : isN b = true) : FP.Core.dkey b.toUInt64 = (ordA b).toInt := by
  rw [(ord_u h).1]
  unfold FP.Core.dkey
  show (if 2 ^ 63 ≤ uN b then ((2 ^ 63 : Nat) : Int) - (uN b : Int) else (uN b : Int)) = _
  by_cases c : uN b < 2 ^ 63
  · rw [if_pos c, if_neg (by omega)]
  · rw [if_neg c, if_pos (by omega)]; omega
theorem isLess_ok {a b : Int64} (ha : isN a = true) (hb : isN b = true) : F_X9_isLess a b = some (if ordA a < ordA b then 1 else 0) := by
  unfold F_X9_isLess f_X9_isLess
  rw [gd_t (snl_ok ha), gd_t (snl_ok hb)]
  have na : FP.Core.val64 a.toUInt64 ≠ .nan := dec_num ha
  have nb : FP.Core.val64 b.toUInt64 ≠ .nan := dec_num hb
  have ka := ord_key ha
  have kb := ord_key hb
  have e : FP.dcmp a.toUInt64 b.toUInt64 = FP.Core.dcmp a.toUInt64 b.toUInt64 := rfl
  rw [e]
  by_cases c : ordA a < ordA b
  · have c' := (fa_lt64 _ _).mp c
    rw [(FP.Core.dcmp_lt_key na nb).mpr (by omega), if_pos c, if_neg (by decide)]
  · rw [if_neg c]
    have c' : ¬ (ordA a).toInt < (ordA b).toInt := fun z => c ((fa_lt64 _ _).mpr z)
    by_cases c2 : (ordA a).toInt = (ordA b).toInt
    · rw [(FP.Core.dcmp_eq_key na nb).mpr (by omega), if_pos (by decide)]
    · rw [(FP.Core.dcmp_gt_key na nb).mpr (by omega), if_pos (by decide)]
theorem told_ok' {y : Int64} (h : isN y = true ∨ y = nanW) : F_X9_told y.toUInt64 = some y := by
  unfold F_X9_told f_X9_told F_Jxe99ae_doubleToLongBits_ccdee f_Jxe99ae_doubleToLongBits_ccdee F_Jxe99ae_isNaN_b9ae7 f_Jxe99ae_isNaN_b9ae7
  rcases h with h | h
  · have na : FP.Core.val64 y.toUInt64 ≠ .nan := dec_num h
    have e : FP.dcmp y.toUInt64 y.toUInt64 = some .eq := (FP.Core.dcmp_eq_key na na).mpr rfl
    have e2 : isNaN64 y.toUInt64 = false := by
      cases hh : isNaN64 y.toUInt64 with
      | false => rfl
      | true => exact absurd (dec_nan hh) na
    rw [e, gd_t e2]
    rfl
  · subst h
    have e : FP.dcmp nanW.toUInt64 nanW.toUInt64 = none := by decide +kernel
    rw [e]
    rfl
/-- what is gathered, place by place -/
theorem al_at {K : Kn} {m : Mem} {A : Nat} {l : List Pt} {Q : Nat → Int32 → Prop} (h : MS K m A) (hl : alM m A l Q) {i : Nat} {x : Pt} (hx : l[i]? = some x) : (¬ gI m A 33 ≤ nI i) ∧ ldA K m A 30 1 = some (A + 19) ∧ ldA K m A 31 1 = some (A + 20) ∧ alJ K m (A + 19) (nI i) = some (lN x.1) ∧ alJ K m (A + 20) (nI i) = some x.2 := by
  have hi := (List.getElem?_eq_some_iff.mp hx).1
  have hlen := hl.2.1
  obtain ⟨e1, e2, -⟩ := hl.2.2 i x hx
  refine ⟨?_, h.d30, h.d31, ?_, ?_⟩
  · rw [hl.1]
    exact fun z => by have := (nI_leI (by omega) (by omega)).mp z; omega
  · rw [h.g30 (by omega), e1]
  · rw [h.g31 (by omega), e2]
theorem al_pv {K : Kn} {m : Mem} {A : Nat} {l : List Pt} {Q : Nat → Int32 → Prop} (h : MS K m A) (hl : alM m A l Q) {i : Nat} (h1 : 1 ≤ i) (hi : i < l.length) : alJ K m (A + 19) (nI i - (1 : Int32)) = some (lN (pv l i).1) ∧ alJ K m (A + 20) (nI i - (1 : Int32)) = some (pv l i).2 := by
  obtain ⟨x, hx⟩ := get_some (l := l) (i := i - 1) (by omega)
  obtain ⟨-, -, -, e1, e2⟩ := al_at h hl hx
  rw [show (1 : Int32) = nI 1 from rfl, pk_sub h1]
  unfold pv
  rw [hx]
  exact ⟨e1, e2⟩
theorem al_end {m : Mem} {A : Nat} {l : List Pt} {Q : Nat → Int32 → Prop} (hl : alM m A l Q) {i : Nat} (h1 : l.length ≤ i) (h2 : i ≤ l.length + 1) : gI m A 33 ≤ nI i := by
  have hlen := hl.2.1
  rw [hl.1]
  exact (nI_leI (by omega) (by omega)).mpr h1
theorem mpasses_ok {K : Kn} {m : Mem} {A : Nat} {s : St} (hok : stOk s) (h : RM K m A s) (x : Int32) (v : Int64) : okM K m A (F_X9_passes K m A x v) (aPasses s x v) s := by
  unfold F_X9_passes f_X9_passes aPasses
  rcases isSeries_ok hok h x with ⟨hs, hn⟩ | ⟨S, hs, hn⟩
  · rw [hn, hs, bind_e, if_pos rfl]; exact okM.same h
  · rw [hn, hs, bind_e, if_neg (by decide), isNumM, bind_e]
    dsimp only
    by_cases cv : isN v = true
    · rw [if_pos cv, if_pos cv, if_neg (by decide)]
      obtain ⟨m1, r1, r2, r3, ⟨g1, g2⟩, r5, hS, g3, g4⟩ := gathM hok h hs
      rw [r1, bind_e]
      have hlen := g2.2.1
      have := scanT 1 (allP S) (fun n (y : Int32) i => f_X9_passes_31 K A x v n m1 y (nI i)) (passF (allP S) (ordA v)) (fun _ => True) (fun y => some (y, m1)) (fun _ _ _ _ _ _ => trivial) (fun n y i q h1 hq _ => ?_) (fun n y i hi hi2 _ => ?_) FU 1 0 (Nat.le_refl _) (by omega) (by rw [FU_e]; omega) trivial
      · have e : f_X9_passes_31 K A x v FU m1 (0 : Int32) (1 : Int32) = _ := this
        rw [e]
        exact okM.kp hok h r2
      · have hil := (List.getElem?_eq_some_iff.mp hq).1
        obtain ⟨a1, a2, a3, a4, a5⟩ := al_at g1 g2 hq
        obtain ⟨b1, b2⟩ := al_pv g1 g2 h1 hil
        show f_X9_passes_31B K A x v (f_X9_passes_31 K A x v n) m1 y (nI i) = _
        unfold f_X9_passes_31B f_X9_passes_72 f_X9_passes_73 f_X9_passes_113 f_X9_passes_114 passF
        rw [if_neg a1, a3, bind_e, a5, bind_e, isNumM, bind_e]
        simp only [bd_e, nI_1, add_0, bind_e, a3, a5, b2, isNumM, if_true]
        cases c1 : isN q.2 with
        | false =>
          rw [if_neg (by decide : ¬ (false = true)), if_pos rfl, if_neg (by simp)]
        | true =>
          rw [if_pos rfl, if_neg (by decide)]
          cases c2 : isN (pv (allP S) i).2 with
          | false =>
            rw [if_neg (by decide : ¬ (false = true)), if_pos rfl, if_neg (by simp)]
          | true =>
            rw [if_pos rfl, if_neg (by decide), if_neg (by decide : ¬ ((1 : Int32) = 0)), isLess_ok c1 cv, isLess_ok c2 cv]
            simp only [bind_e]
            by_cases d1 : ordA q.2 < ordA v
            · by_cases d2 : ordA (pv (allP S) i).2 < ordA v
              · simp [d1, d2]
              · simp [d1, d2]
            · by_cases d2 : ordA (pv (allP S) i).2 < ordA v
              · simp [d1, d2]
              · simp [d1, d2]
      · show f_X9_passes_31B K A x v (f_X9_passes_31 K A x v n) m1 y (nI i) = _
        unfold f_X9_passes_31B
        rw [if_pos (al_end g2 hi hi2)]
    · rw [if_neg cv, if_neg cv, if_pos rfl]; exact okM.same h
theorem mrow_ok {K : Kn} {m : Mem} {A : Nat} {s : St} (hok : stOk s) (h : RM K m A s) (x w : Int32) : okM K m A (F_X9_row K m A x w) (aRow s x w) s := by
  unfold F_X9_row f_X9_row aRow
  rcases isSeries_ok hok h x with ⟨hs, hn⟩ | ⟨S, hs, hn⟩
  · rw [hn, hs, bind_e, if_pos rfl]; exact okM.same h
  · rw [hn, hs, bind_e, if_neg (by decide)]
    dsimp only
    rcases in_w 1 (by decide) w with ⟨hi, c1 | ⟨c1, c2⟩⟩ | ⟨hi, c1, c2⟩
    · have hi : F_X9_in w.toInt64 (0 : Int64) (1 : Int64) = some 0 := hi
      rw [hi, bind_e, if_pos rfl, if_pos c1]; exact okM.same h
    · have hi : F_X9_in w.toInt64 (0 : Int64) (1 : Int64) = some 0 := hi
      have c2 : ¬ w ≤ (1 : Int32) := c2
      rw [hi, bind_e, if_pos rfl, if_neg c1, if_neg c2]; exact okM.same h
    · have hi : F_X9_in w.toInt64 (0 : Int64) (1 : Int64) = some 1 := hi
      have c2 : w ≤ (1 : Int32) := c2
      rw [hi, bind_e, if_neg (by decide), if_neg c1, if_pos c2]
      obtain ⟨m1, r1, r2, r3, ⟨g1, g2⟩, r5, hS, g3, g4⟩ := gathM hok h hs
      rw [r1, bind_e]
      have hlen := g2.2.1
      by_cases w0 : w = 0
      · rw [if_pos w0]
        have := scanT 0 (allP S) (fun n (y : Int32 × Int32) i => f_X9_row_34 K A x w n m1 y.1 y.2 (nI i)) (sameF (allP S)) (fun _ => True) (fun y => some (y.1, m1)) (fun _ _ _ _ _ _ => trivial) (fun n y i q h1 hq _ => ?_) (fun n y i hi hi2 _ => ?_) FU 0 (0, 0) (Nat.le_refl _) (by omega) (by rw [FU_e]; omega) trivial
        · have e : f_X9_row_34 K A x w FU m1 (0 : Int32) (0 : Int32) (0 : Int32) = _ := this
          rw [e, List.drop_zero]
          exact okM.kp hok h r2
        · have hil := (List.getElem?_eq_some_iff.mp hq).1
          obtain ⟨a1, a2, a3, a4, a5⟩ := al_at g1 g2 hq
          show f_X9_row_34B K A x w (f_X9_row_34 K A x w n) m1 y.1 y.2 (nI i) = _
          unfold f_X9_row_34B f_X9_row_125 f_X9_row_129 f_X9_row_130 f_X9_row_161 f_X9_row_166 sameF
          simp only [if_pos w0, max_ok, bind_e, bd_e, nI_1, if_true]
          rw [if_neg a1]
          by_cases ci : i = 0
          · subst ci
            rw [if_pos (by decide), if_neg (by omega)]
          · obtain ⟨b1, b2⟩ := al_pv g1 g2 (by omega) hil
            rw [if_neg (fun z => by have := (nI_leI (b := 0) (by omega) (by omega)).mp z; omega), a3, bind_e, a5, bind_e, bind_e, b2, bind_e]
            by_cases d : q.2 = (pv (allP S) i).2
            · rw [if_pos ((lg_cmp_eq _ _).mpr d), if_neg (by decide), if_pos ⟨by omega, d⟩]
            · rw [if_neg (fun z => d ((lg_cmp_eq _ _).mp z)), if_neg (fun z => d z.2)]
        · show f_X9_row_34B K A x w (f_X9_row_34 K A x w n) m1 y.1 y.2 (nI i) = _
          unfold f_X9_row_34B
          rw [if_pos (al_end g2 hi hi2)]
      · rw [if_neg w0]
        have := scanT 0 (allP S) (fun n (y : Int32 × Nat) i => f_X9_row_34 K A x w n m1 y.1 (nI y.2) (nI i)) (riseF (allP S)) (fun _ => True) (fun y => some (y.1, m1)) (fun _ _ _ _ _ _ => trivial) (fun n y i q h1 hq _ => ?_) (fun n y i hi hi2 _ => ?_) FU 0 (0, 0) (Nat.le_refl _) (by omega) (by rw [FU_e]; omega) trivial
        · have e : f_X9_row_34 K A x w FU m1 (0 : Int32) (0 : Int32) (0 : Int32) = _ := this
          rw [e, List.drop_zero]
          exact okM.kp hok h r2
        · have hil := (List.getElem?_eq_some_iff.mp hq).1
          obtain ⟨a1, a2, a3, a4, a5⟩ := al_at g1 g2 hq
          show f_X9_row_34B K A x w (f_X9_row_34 K A x w n) m1 y.1 (nI y.2) (nI i) = _
          unfold f_X9_row_34B f_X9_row_125 f_X9_row_129 f_X9_row_130 f_X9_row_161 f_X9_row_166 riseF
          simp only [if_neg w0, max_ok, bind_e, bd_e, nI_1, a3, a5, isNumM, if_neg (show ¬ ((1 : Int32) = 0) by decide), if_true]
          rw [if_neg a1]
          have tail : (if (if isN q.2 = true then (1 : Int32) else 0) = 0 then f_X9_row_34 K A x w n m1 (max32 y.1 0) 0 (nI (i + 1)) else f_X9_row_34 K A x w n m1 (max32 y.1 1) 1 (nI (i + 1))) = f_X9_row_34 K A x w n m1 (max32 y.1 (nI (if isN q.2 = true then 1 else 0))) (nI (if isN q.2 = true then 1 else 0)) (nI (i + 1)) := by
            cases isN q.2 <;> rfl
          by_cases ci : i = 0
          · subst ci
            rw [if_pos (by decide), tail]
            have er : riseN (allP S) y.2 0 q = if isN q.2 = true then 1 else 0 := by
              unfold riseN
              rw [if_neg (by omega)]
            rw [er]
          · obtain ⟨b1, b2⟩ := al_pv g1 g2 (by omega) hil
            rw [if_neg (fun z => by have := (nI_leI (b := 0) (by omega) (by omega)).mp z; omega)]
            simp only [b2, bind_e, isNumM]
            rw [tail]
            cases d1 : isN (pv (allP S) i).2 with
            | false =>
              rw [if_neg (by decide : ¬ (false = true)), if_pos rfl]
              have er : riseN (allP S) y.2 i q = if isN q.2 = true then 1 else 0 := by
                unfold riseN
                rw [if_neg (by rw [d1]; simp)]
              rw [er]
            | true =>
              rw [if_pos rfl, if_neg (by decide)]
              cases d2 : isN q.2 with
              | false =>
                rw [if_neg (by decide : ¬ (false = true)), if_pos rfl]
                have er : riseN (allP S) y.2 i q = 0 := by
                  unfold riseN
                  rw [if_neg (by rw [d2]; simp), d2]; rfl
                rw [er]; rfl
              | true =>
                rw [if_pos rfl, if_neg (by decide), isLess_ok d1 d2]
                simp only [bind_e]
                by_cases d3 : ordA (pv (allP S) i).2 < ordA q.2
                · have er : riseN (allP S) y.2 i q = y.2 + 1 := by
                    unfold riseN
                    rw [if_pos ⟨by omega, d1, d2, d3⟩]
                  rw [if_pos d3, if_neg (by decide), er]
                · have er : riseN (allP S) y.2 i q = 1 := by
                    unfold riseN
                    rw [if_neg (fun z => d3 z.2.2.2), if_pos d2]
                  rw [if_neg d3, if_pos rfl, er]; rfl
        · show f_X9_row_34B K A x w (f_X9_row_34 K A x w n) m1 y.1 (nI y.2) (nI i) = _
          unfold f_X9_row_34B
          rw [if_pos (al_end g2 hi hi2)]
/-- the widest gap, as the reference sees it -/
def gpF (l : List Pt) (x : Int × Int) (i : Nat) (q : Pt) : Int × Int := if (q.1 : Int) - (pv l i).1 ≤ x.1 then x else ((q.1 : Int) - (pv l i).1, ((pv l i).1 : Int))
def gpI (x : Int × Int) : Prop := 0 ≤ x.1 ∧ x.1 ≤ 2000000000 ∧ -1 ≤ x.2 ∧ x.2 ≤ 2000000000
theorem pv_mem {l : List Pt} {i : Nat} (h1 : 1 ≤ i) (hi : i ≤ l.length) : l[i - 1]? = some (pv l i) := by
  obtain ⟨x, hx⟩ := get_some (l := l) (i := i - 1) (by omega)
  unfold pv; rw [hx]; rfl
theorem gp_same {l : List Pt} (hs : srt l) (h2 : ∀ q ∈ l, q.1 ≤ 2000000000) : ∀ (n i : Nat) (x : Int × Int), l.length - i = n → 1 ≤ i → 1 ≤ x.1 → gpI x → foldI (gapF l) (iZ x.1, iZ x.2) i (l.drop i) = (iZ (foldI (gpF l) x i (l.drop i)).1, iZ (foldI (gpF l) x i (l.drop i)).2)
  | 0, i, x, hn, _, _, _ => by rw [List.drop_eq_nil_of_le (by omega)]; rfl
  | n + 1, i, x, hn, h1, hx1, hx => by
    obtain ⟨q, hq⟩ := get_some (l := l) (i := i) (by omega)
    have hp := pv_mem (l := l) h1 (by omega)
    have hlt := srt_lt hs hp hq (by omega)
    have hq2 := h2 q (List.mem_of_getElem? hq)
    rw [drop_get hq]
    show foldI (gapF l) (gapF l (iZ x.1, iZ x.2) i q) (i + 1) (l.drop (i + 1)) = (iZ (foldI (gpF l) (gpF l x i q) (i + 1) (l.drop (i + 1))).1, iZ (foldI (gpF l) (gpF l x i q) (i + 1) (l.drop (i + 1))).2)
    have e : nI q.1 - nI (pv l i).1 = iZ ((q.1 : Int) - (pv l i).1) := by rw [← iZ_nat, ← iZ_nat, iZ_sub]
    have hx2 := hx.2.1
    have hc : iZ ((q.1 : Int) - (pv l i).1) ≤ iZ x.1 ↔ (q.1 : Int) - (pv l i).1 ≤ x.1 := by
      rw [fa_le, iZ_toInt (by omega) (by omega), iZ_toInt (by omega) (by omega)]
    unfold gapF gpF
    dsimp only
    rw [e]
    by_cases c : (q.1 : Int) - (pv l i).1 ≤ x.1
    · rw [if_pos (hc.mpr c), if_pos c]
      exact gp_same hs h2 n (i + 1) x (by omega) (by omega) hx1 hx
    · rw [if_neg (fun z => c (hc.mp z)), if_neg c, ← iZ_nat]
      exact gp_same hs h2 n (i + 1) ((q.1 : Int) - (pv l i).1, ((pv l i).1 : Int)) (by omega) (by omega) (by show (1 : Int) ≤ _ - _; omega) ⟨by show (0 : Int) ≤ _ - _; omega, by show (_ : Int) - _ ≤ _; omega, by show (-1 : Int) ≤ _; omega, by show ((pv l i).1 : Int) ≤ _; omega⟩
theorem gap_rel {l : List Pt} (hs : srt l) (h2 : ∀ q ∈ l, q.1 ≤ 2000000000) (hl : 2 ≤ l.length) : gapA l = (iZ (foldI (gpF l) (0, -1) 1 (l.drop 1)).1, iZ (foldI (gpF l) (0, -1) 1 (l.drop 1)).2) := by
  obtain ⟨q, hq⟩ := get_some (l := l) (i := 1) (by omega)
  have hp := pv_mem (l := l) (i := 1) (by omega) (by omega)
  have hlt := srt_lt hs hp hq (by omega)
  have hq2 := h2 q (List.mem_of_getElem? hq)
  unfold gapA
  rw [drop_get hq]
  show foldI (gapF l) (gapF l (-1, -1) 1 q) 2 (l.drop 2) = (iZ (foldI (gpF l) (gpF l (0, -1) 1 q) 2 (l.drop 2)).1, iZ (foldI (gpF l) (gpF l (0, -1) 1 q) 2 (l.drop 2)).2)
  have e : nI q.1 - nI (pv l 1).1 = iZ ((q.1 : Int) - (pv l 1).1) := by rw [← iZ_nat, ← iZ_nat, iZ_sub]
  have e1 : gapF l (-1, -1) 1 q = (iZ ((q.1 : Int) - (pv l 1).1), iZ ((pv l 1).1 : Int)) := by
    unfold gapF
    dsimp only
    rw [e, if_neg, iZ_nat]
    rw [fa_le, iZ_toInt (by omega) (by omega)]
    show ¬ _ ≤ (-1 : Int)
    omega
  have e2 : gpF l (0, -1) 1 q = ((q.1 : Int) - (pv l 1).1, ((pv l 1).1 : Int)) := by
    unfold gpF
    dsimp only
    rw [if_neg (by omega)]
  rw [e1, e2]
  exact gp_same hs h2 (l.length - 2) 2 ((q.1 : Int) - (pv l 1).1, ((pv l 1).1 : Int)) rfl (by omega) (by show (1 : Int) ≤ _ - _; omega) ⟨by show (0 : Int) ≤ _ - _; omega, by show (_ : Int) - _ ≤ _; omega, by show (-1 : Int) ≤ _; omega, by show ((pv l 1).1 : Int) ≤ _; omega⟩
theorem mgap_ok {K : Kn} {m : Mem} {A : Nat} {s : St} (hok : stOk s) (h : RM K m A s) (x w : Int32) : okM K m A (F_X9_gap K m A x w) (aGap s x w) s := by
  unfold F_X9_gap f_X9_gap aGap
  rcases isSeries_ok hok h x with ⟨hs, hn⟩ | ⟨S, hs, hn⟩
  · rw [hn, hs, bind_e, if_pos rfl]; exact okM.same h
  · rw [hn, hs, bind_e, if_neg (by decide)]
    dsimp only
    rcases in_w 1 (by decide) w with ⟨hi, c1 | ⟨c1, c2⟩⟩ | ⟨hi, c1, c2⟩
    · have hi : F_X9_in w.toInt64 (0 : Int64) (1 : Int64) = some 0 := hi
      rw [hi, bind_e, if_pos rfl, if_pos c1]; exact okM.same h
    · have hi : F_X9_in w.toInt64 (0 : Int64) (1 : Int64) = some 0 := hi
      have c2 : ¬ w ≤ (1 : Int32) := c2
      rw [hi, bind_e, if_pos rfl, if_neg c1, if_neg c2]; exact okM.same h
    · have hi : F_X9_in w.toInt64 (0 : Int64) (1 : Int64) = some 1 := hi
      have c2 : w ≤ (1 : Int32) := c2
      rw [hi, bind_e, if_neg (by decide), if_neg c1, if_pos c2]
      obtain ⟨m1, r1, r2, r3, ⟨g1, g2⟩, r5, hS, g3, g4⟩ := gathM hok h hs
      rw [r1, bind_e]
      have hlen := g2.2.1
      have hIst : ∀ (y : Int × Int) (i : Nat) (q : Pt), 1 ≤ i → (allP S)[i]? = some q → gpI y → gpI (gpF (allP S) y i q) := fun y i q h1 hq hy => by
        have hil := (List.getElem?_eq_some_iff.mp hq).1
        have hp := pv_mem (l := allP S) h1 (by omega)
        have hlt := srt_lt g3 hp hq (by omega)
        have hq2 := g4 q (List.mem_of_getElem? hq)
        unfold gpF
        split
        · exact hy
        · exact ⟨by show (0 : Int) ≤ _ - _; omega, by show (_ : Int) - _ ≤ _; omega, by show (-1 : Int) ≤ _; omega, by show ((pv (allP S) i).1 : Int) ≤ _; omega⟩
      have := scanT 1 (allP S) (fun n (y : Int × Int) i => f_X9_gap_36 K A x w n m1 (lZ y.1) (lZ y.2) (nI i)) (gpF (allP S)) gpI (fun y => some ((if 2 ≤ (allP S).length then (if w = 0 then iZ y.1 else iZ y.2) else -1), m1)) hIst (fun n y i q h1 hq hy => ?_) (fun n y i hi hi2 hy => ?_) FU 1 (0, -1) (Nat.le_refl _) (by omega) (by rw [FU_e]; omega) ⟨by decide, by decide, by decide, by decide⟩
      · have e : f_X9_gap_36 K A x w FU m1 (0 : Int64) (-1 : Int64) (1 : Int32) = _ := this
        rw [e]
        by_cases c : 2 ≤ (allP S).length
        · rw [if_pos c, gap_rel g3 g4 c]
          exact okM.kp hok h r2
        · rw [if_neg c]
          have eg : gapA (allP S) = (-1, -1) := by
            unfold gapA
            rw [List.drop_eq_nil_of_le (by omega)]; rfl
          rw [eg]
          have : (if w = 0 then (-1 : Int32) else -1) = -1 := by split <;> rfl
          rw [this]
          exact okM.kp hok h r2
      · have hil := (List.getElem?_eq_some_iff.mp hq).1
        obtain ⟨a1, a2, a3, a4, a5⟩ := al_at g1 g2 hq
        obtain ⟨b1, b2⟩ := al_pv g1 g2 h1 hil
        have hp := pv_mem (l := allP S) h1 (by omega)
        have hlt := srt_lt g3 hp hq (by omega)
        have hq2 := g4 q (List.mem_of_getElem? hq)
        have hy1 := hy.1
        have hy2 := hy.2.1
        show f_X9_gap_36B K A x w (f_X9_gap_36 K A x w n) m1 (lZ y.1) (lZ y.2) (nI i) = _
        unfold f_X9_gap_36B f_X9_gap_96 gpF
        rw [if_neg a1]
        simp only [a2, a4, b1, bind_e, bd_e, nI_1]
        have ed : lN q.1 - lN (pv (allP S) i).1 = lZ ((q.1 : Int) - (pv (allP S) i).1) := by rw [← lZ_nat, ← lZ_nat, lZ_sub]
        rw [ed]
        have hc : lg_cmp (lZ ((q.1 : Int) - (pv (allP S) i).1)) (lZ y.1) ≤ 0 ↔ (q.1 : Int) - (pv (allP S) i).1 ≤ y.1 := lgZ_le (by omega) (by omega) (by omega) (by omega)
        by_cases c : (q.1 : Int) - (pv (allP S) i).1 ≤ y.1
        · rw [if_pos (hc.mpr c), if_pos c]
        · rw [if_neg (fun z => c (hc.mp z)), if_neg c, ← lZ_nat]
      · show f_X9_gap_36B K A x w (f_X9_gap_36 K A x w n) m1 (lZ y.1) (lZ y.2) (nI i) = _
        unfold f_X9_gap_36B f_X9_gap_124
        rw [if_pos (al_end g2 hi hi2), g2.1, lZ_toI, lZ_toI]
        have i2 : (2 : Int32) ≤ nI (allP S).length ↔ 2 ≤ (allP S).length := nI_leI (a := 2) (by omega) (by omega)
        by_cases c : 2 ≤ (allP S).length
        · rw [if_pos (i2.mpr c), if_pos c]
          split <;> rfl
        · rw [if_neg (fun z => c (i2.mp z)), if_neg c]
