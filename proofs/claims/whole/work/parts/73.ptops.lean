/-! ===== what is asked of rows of points ===== -/
def isN (b : Int64) : Bool := decide ((b &&& (9223372036854775807 : Int64)) ≤ (9218868437227405312 : Int64))
def isI (b : Int64) : Bool := decide ((b &&& (9223372036854775807 : Int64)) = (9218868437227405312 : Int64))
def isF (b : Int64) : Bool := decide ((b &&& (9223372036854775807 : Int64)) < (9218868437227405312 : Int64))
def ordA (b : Int64) : Int64 := if b < 0 then -(b &&& (9223372036854775807 : Int64)) else b
theorem nle64 {a b : Int64} : ¬ a ≤ b ↔ b < a := by rw [fa_le64, fa_lt64]; omega
theorem nlt64 {a b : Int64} : ¬ a < b ↔ b ≤ a := by rw [fa_le64, fa_lt64]; omega
theorem isNumber_ok (b : Int64) : F_X3_isNumber b = some (if isN b = true then 1 else 0) := by
  unfold F_X3_isNumber f_X3_isNumber isN
  by_cases c : (b &&& (9223372036854775807 : Int64)) ≤ (9218868437227405312 : Int64)
  · rw [if_neg (fun z => absurd ((lg_cmp_gt _ _).mp z) (by rw [nlt64]; exact c)), decide_eq_true c]; rfl
  · rw [if_pos ((lg_cmp_gt _ _).mpr (nle64.mp c)), decide_eq_false c]; rfl
theorem isInfinite_ok (b : Int64) : F_X3_isInfinite b = some (if isI b = true then 1 else 0) := by
  unfold F_X3_isInfinite f_X3_isInfinite isI
  by_cases c : (b &&& (9223372036854775807 : Int64)) = (9218868437227405312 : Int64)
  · rw [if_pos ((lg_cmp_eq _ _).mpr c), decide_eq_true c]; rfl
  · rw [if_neg (fun z => c ((lg_cmp_eq _ _).mp z)), decide_eq_false c]; rfl
theorem isFinite_ok (b : Int64) : F_X3_isFinite b = some (if isF b = true then 1 else 0) := by
  unfold F_X3_isFinite f_X3_isFinite isF
  by_cases c : (b &&& (9223372036854775807 : Int64)) < (9218868437227405312 : Int64)
  · rw [if_neg (fun z => absurd ((lg_cmp_ge _ _).mp z) (by rw [nle64]; exact c)), decide_eq_true c]; rfl
  · rw [if_pos ((lg_cmp_ge _ _).mpr (nlt64.mp c)), decide_eq_false c]; rfl
theorem order_ok (b : Int64) : F_X3_order b = some (ordA b) := by
  unfold F_X3_order f_X3_order ordA
  by_cases c : b < 0
  · rw [if_pos ((lg_cmp_lt _ _).mpr c), if_pos c]
  · rw [if_neg (fun z => c ((lg_cmp_lt _ _).mp z)), if_neg c]
theorem b01 (b : Bool) : ((if b = true then (1 : Int32) else 0) = 0) = (b = false) := by cases b <;> simp
/-- the point ahead in a row -/
def pv (l : List Pt) (i : Nat) : Pt := (l[i - 1]?).getD (0, 0)
/-- a step of a loop over a row -/
theorem pt_at {K : Kn} {m : Mem} {x n : Nat} {l : List Pt} (h : ptR K m x n l) {i : Nat} {q : Pt} (hi : l[i]? = some q) : (¬ gI m x 2 ≤ nI i) ∧ ldA K m x 0 0 = some (x + 1) ∧ ldA K m x 1 1 = some (x + 2) ∧ alI K m (x + 1) (nI i) = some (nI q.1) ∧ alJ K m (x + 2) (nI i) = some q.2 := by
  obtain ⟨t1, t2, t3, t4, t5, t6, t7, t8, t9⟩ := id h
  have hl := (List.getElem?_eq_some_iff.mp hi).1
  refine ⟨?_, ldA_n t1 t4, ldA_n t2 t5, (h.at hi).1, (h.at hi).2⟩
  rw [t6]; exact nI_ge hl (by omega)
theorem pt_pv {K : Kn} {m : Mem} {x n : Nat} {l : List Pt} (h : ptR K m x n l) {i : Nat} (hi : i ≤ l.length) (h1 : 1 ≤ i) : alI K m (x + 1) (nI i - (1 : Int32)) = some (nI (pv l i).1) ∧ alJ K m (x + 2) (nI i - (1 : Int32)) = some (pv l i).2 := by
  obtain ⟨q, hq⟩ := get_some (l := l) (i := i - 1) (by omega)
  rw [show nI i - (1 : Int32) = nI (i - 1) from pk_sub (b := 1) h1]
  unfold pv
  rw [hq]
  exact h.at hq
theorem pt_end {K : Kn} {m : Mem} {x n : Nat} {l : List Pt} (h : ptR K m x n l) {i : Nat} (hi : l.length ≤ i) (hi2 : i < 100000) : gI m x 2 ≤ nI i := by
  obtain ⟨t1, t2, t3, t4, t5, t6, t7, t8, t9⟩ := id h
  rw [t6]; exact nI_le hi (by omega)
theorem pt_len {K : Kn} {m : Mem} {x n : Nat} {l : List Pt} (h : ptR K m x n l) : l.length < 1000000 ∧ l.length ≤ 20000 := by
  have h7 := h.2.2.2.2.2.2.1
  have h8 := h.2.2.2.2.2.2.2.1
  omega
theorem lastStamp_ok {K : Kn} {m : Mem} {x n : Nat} {l : List Pt} (h : ptR K m x n l) : F_X5_lastStamp K m x = some (match l.getLast? with
    | none => -1
    | some q => nI q.1) := by
  have hl := pt_len h
  unfold F_X5_lastStamp f_X5_lastStamp
  rw [h.2.2.2.2.2.1]
  cases hg : l.getLast? with
  | none =>
    have : l = [] := List.getLast?_eq_none_iff.mp hg
    subst this; rfl
  | some q =>
    have hne : l ≠ [] := fun z => by subst z; simp at hg
    have hpos : 0 < l.length := List.length_pos_iff.mpr hne
    rw [if_neg (nI_nle hpos (by omega)), ldA_n h.1 h.2.2.2.1, bind_e, (pt_pv h (Nat.le_refl _) hpos).1, bind_e]
    unfold pv
    rw [List.getLast?_eq_getElem?] at hg
    rw [hg]; rfl
def cntA (p : Int64 → Bool) (l : List Pt) : Int32 := foldI (fun (x : Int32) _ (q : Pt) => if p q.2 = true then x + 1 else x) 0 0 l
def kindC (what : Int32) (b : Int64) : Bool := if what = 4 then !(isN b) else if what = 5 then decide (b = -9223372036854775808) else isI b
theorem countKind_ok {K : Kn} {m : Mem} {x n : Nat} {l : List Pt} (h : ptR K m x n l) (what : Int32) : F_X5_countKind K m x what = some (cntA (kindC what) l) := by
  have hl := pt_len h
  refine scan0 l hl.1 (fun n y i => f_X5_countKind_4 K m x what n y (nI i)) _ (fun x => x) (0 : Int32) (fun n y i q hq => ?_) (fun n y => ?_)
  · obtain ⟨c1, e1, e2, e3, e4⟩ := pt_at h hq
    show f_X5_countKind_4B K m x what (f_X5_countKind_4 K m x what n) y (nI i) = _
    have e72 : ∀ b : Bool, f_X5_countKind_72 K m x what (f_X5_countKind_4 K m x what n) y (nI i) (if b = true then 1 else 0) = f_X5_countKind_4 K m x what n (if b = true then y + 1 else y) (nI (i + 1)) := by
      intro b
      unfold f_X5_countKind_72 f_X5_countKind_82
      simp only [bd_e, nI_1]
      cases b
      · rfl
      · rfl
    unfold f_X5_countKind_4B
    rw [if_neg c1]
    unfold kindC
    by_cases w4 : what = 4
    · rw [if_pos w4, e2, bind_e, e4, bind_e, isNumber_ok, bind_e, if_pos w4, ← e72]
      cases isN q.2 <;> rfl
    · rw [if_neg w4]
      by_cases w5 : what = 5
      · rw [if_pos w5, e2, bind_e, e4, bind_e, if_neg w4, if_pos w5, ← e72]
        by_cases c : q.2 = -9223372036854775808
        · rw [if_pos ((lg_cmp_eq _ _).mpr c), decide_eq_true c]; rfl
        · rw [if_neg (fun z => c ((lg_cmp_eq _ _).mp z)), decide_eq_false c]; rfl
      · rw [if_neg w5, e2, bind_e, e4, bind_e, isInfinite_ok, bind_e, if_neg w4, if_neg w5, ← e72]
  · show f_X5_countKind_4B K m x what (f_X5_countKind_4 K m x what n) y (nI l.length) = _
    unfold f_X5_countKind_4B
    rw [if_pos (pt_end h (Nat.le_refl _) (by omega))]
theorem countAbove_ok {K : Kn} {m : Mem} {x n : Nat} {l : List Pt} (h : ptR K m x n l) (lim : Int64) : F_X5_countAbove K m x lim = some (cntA (fun b => decide (ordA lim < ordA b)) l) := by
  have hl := pt_len h
  refine scan0 l hl.1 (fun n y i => f_X5_countAbove_5 K m x lim n y (nI i)) _ (fun x => x) (0 : Int32) (fun n y i q hq => ?_) (fun n y => ?_)
  · obtain ⟨c1, e1, e2, e3, e4⟩ := pt_at h hq
    show f_X5_countAbove_5B K m x lim (f_X5_countAbove_5 K m x lim n) y (nI i) = _
    unfold f_X5_countAbove_5B f_X5_countAbove_35
    rw [if_neg c1, e2, bind_e, e4, bind_e, order_ok, bind_e, order_ok, bind_e]
    simp only [bd_e, nI_1]
    by_cases c : ordA lim < ordA q.2
    · rw [if_neg (fun z => absurd ((lg_cmp_le _ _).mp z) (by rw [nle64]; exact c)), if_pos (decide_eq_true c)]
    · rw [if_pos ((lg_cmp_le _ _).mpr (nlt64.mp c)), if_neg (by simpa using c)]
  · show f_X5_countAbove_5B K m x lim (f_X5_countAbove_5 K m x lim n) y (nI l.length) = _
    unfold f_X5_countAbove_5B
    rw [if_pos (pt_end h (Nat.le_refl _) (by omega))]
theorem countBelow_ok {K : Kn} {m : Mem} {x n : Nat} {l : List Pt} (h : ptR K m x n l) (o : Int64) : F_X5_countBelow K m x o = some (cntA (fun b => decide (ordA b < o)) l) := by
  have hl := pt_len h
  refine scan0 l hl.1 (fun n y i => f_X5_countBelow_5 K m x o n y (nI i)) _ (fun x => x) (0 : Int32) (fun n y i q hq => ?_) (fun n y => ?_)
  · obtain ⟨c1, e1, e2, e3, e4⟩ := pt_at h hq
    show f_X5_countBelow_5B K m x o (f_X5_countBelow_5 K m x o n) y (nI i) = _
    unfold f_X5_countBelow_5B f_X5_countBelow_32
    rw [if_neg c1, e2, bind_e, e4, bind_e, order_ok, bind_e]
    simp only [bd_e, nI_1]
    by_cases c : ordA q.2 < o
    · rw [if_neg (fun z => absurd ((lg_cmp_ge _ _).mp z) (by rw [nle64]; exact c)), if_pos (decide_eq_true c)]
    · rw [if_pos ((lg_cmp_ge _ _).mpr (nlt64.mp c)), if_neg (by simpa using c)]
  · show f_X5_countBelow_5B K m x o (f_X5_countBelow_5 K m x o n) y (nI l.length) = _
    unfold f_X5_countBelow_5B
    rw [if_pos (pt_end h (Nat.le_refl _) (by omega))]
/-- the longest way, where it begins -/
def gapF (l : List Pt) (x : Int32 × Int32) (i : Nat) (q : Pt) : Int32 × Int32 := if nI q.1 - nI (pv l i).1 ≤ x.1 then x else (nI q.1 - nI (pv l i).1, nI (pv l i).1)
def gapA (l : List Pt) : Int32 × Int32 := foldI (gapF l) (-1, -1) 1 (l.drop 1)
theorem scanLo {α β γ : Type} (l : List α) (lo : Nat) (G : Nat → β → Nat → Option γ) (st : β → Nat → α → β) (fin : β → γ) (hB : ∀ n x i a, lo ≤ i → l[i]? = some a → G (n + 1) x i = G n (st x i a) (i + 1)) (hE : ∀ n x i, l.length ≤ i → i ≤ l.length + lo → G (n + 1) x i = some (fin x)) : ∀ n i x, lo ≤ i → i ≤ l.length + lo → l.length - i < n → G n x i = some (fin (foldI st x i (l.drop i)))
  | 0, _, _, _, _, h => absurd h (Nat.not_lt_zero _)
  | n + 1, i, x, hlo, hi, hn => by
    by_cases c : l.length ≤ i
    · rw [hE n x i c hi, List.drop_eq_nil_of_le c]; rfl
    · obtain ⟨a, ha⟩ := get_some (l := l) (i := i) (by omega)
      rw [hB n x i a hlo ha, scanLo l lo G st fin hB hE n (i + 1) _ (by omega) (by omega) (by omega), drop_get ha]; rfl
theorem longestGap_ok {K : Kn} {m : Mem} {x n : Nat} {l : List Pt} (h : ptR K m x n l) (fl : Int32) : F_X5_longestGap K m x fl = some (if fl = 0 then (gapA l).2 else (gapA l).1) := by
  have hl := pt_len h
  refine scanLo l 1 (fun n (y : Int32 × Int32) i => f_X5_longestGap_7 K m x fl n y.1 y.2 (nI i)) (gapF l) (fun y => if fl = 0 then y.2 else y.1) (fun n y i q hi hq => ?_) (fun n y i hi hi2 => ?_) FU 1 (-1, -1) (Nat.le_refl _) (by omega) (by rw [FU_e]; omega)
  · obtain ⟨c1, e1, e2, e3, e4⟩ := pt_at h hq
    have hil := (List.getElem?_eq_some_iff.mp hq).1
    obtain ⟨p1, p2⟩ := pt_pv h (i := i) (by omega) hi
    show f_X5_longestGap_7B K m x fl (f_X5_longestGap_7 K m x fl n) y.1 y.2 (nI i) = _
    unfold f_X5_longestGap_7B f_X5_longestGap_54
    rw [if_neg c1, e1, bind_e, e3, bind_e, bind_e, p1, bind_e]
    simp only [bd_e, nI_1, bind_e]
    unfold gapF
    by_cases c : nI q.1 - nI (pv l i).1 ≤ y.1
    · rw [if_pos c, if_pos c]
    · rw [if_neg c, if_neg c, p1, bind_e]
  · show f_X5_longestGap_7B K m x fl (f_X5_longestGap_7 K m x fl n) y.1 y.2 (nI i) = _
    unfold f_X5_longestGap_7B
    rw [if_pos (pt_end h hi (by omega))]
    split <;> rfl
def max32 (a b : Int32) : Int32 := if a < b then b else a
theorem max_ok (a b : Int32) : F_J9_max_7cf53 a b = some (max32 a b) := by
  unfold F_J9_max_7cf53 f_J9_max_7cf53 max32
  split <;> rfl
/-- the longest row of the same bits -/
def sameF (l : List Pt) (x : Int32 × Int32) (i : Nat) (q : Pt) : Int32 × Int32 := (max32 x.1 (if 0 < i ∧ q.2 = (pv l i).2 then x.2 + 1 else 1), if 0 < i ∧ q.2 = (pv l i).2 then x.2 + 1 else 1)
def sameA (l : List Pt) : Int32 := (foldI (sameF l) (0, 0) 0 l).1
theorem longestSame_ok {K : Kn} {m : Mem} {x n : Nat} {l : List Pt} (h : ptR K m x n l) : F_X5_longestSame K m x = some (sameA l) := by
  have hl := pt_len h
  refine scan0 l hl.1 (fun n (y : Int32 × Int32) i => f_X5_longestSame_6 K m x n y.1 y.2 (nI i)) (sameF l) (fun y => y.1) (0, 0) (fun n y i q hq => ?_) (fun n y => ?_)
  · obtain ⟨c1, e1, e2, e3, e4⟩ := pt_at h hq
    have hil := (List.getElem?_eq_some_iff.mp hq).1
    show f_X5_longestSame_6B K m x (f_X5_longestSame_6 K m x n) y.1 y.2 (nI i) = _
    unfold f_X5_longestSame_6B f_X5_longestSame_42 f_X5_longestSame_43
    rw [if_neg c1]
    simp only [max_ok, bind_e, bd_e, nI_1]
    unfold sameF
    by_cases c0 : i = 0
    · subst c0
      rw [if_pos (by decide), if_neg (by simp)]
    · rw [if_neg (nI_nle (by omega) (by omega)), e2, bind_e, e4, bind_e, bind_e, (pt_pv h (i := i) (by omega) (by omega)).2, bind_e]
      by_cases c : q.2 = (pv l i).2
      · rw [if_pos ((lg_cmp_eq _ _).mpr c), if_pos ⟨by omega, c⟩]
      · rw [if_neg (fun z => c ((lg_cmp_eq _ _).mp z)), if_neg (fun z => c z.2)]
  · show f_X5_longestSame_6B K m x (f_X5_longestSame_6 K m x n) y.1 y.2 (nI l.length) = _
    unfold f_X5_longestSame_6B
    rw [if_pos (pt_end h (Nat.le_refl _) (by omega))]
/-- the longest row of numbers each above the one ahead -/
def riseN (l : List Pt) (x2 : Nat) (i : Nat) (q : Pt) : Nat := if 0 < i ∧ isN (pv l i).2 = true ∧ isN q.2 = true ∧ ordA (pv l i).2 < ordA q.2 then x2 + 1 else if isN q.2 = true then 1 else 0
def riseF (l : List Pt) (x : Int32 × Nat) (i : Nat) (q : Pt) : Int32 × Nat := (max32 x.1 (nI (riseN l x.2 i q)), riseN l x.2 i q)
def riseA (l : List Pt) : Int32 := (foldI (riseF l) (0, 0) 0 l).1
theorem riseL {K : Kn} {m : Mem} {x n : Nat} {l : List Pt} (h : ptR K m x n l) : ∀ (f i : Nat) (y : Int32) (k : Nat), i ≤ l.length → l.length - i < f → k ≤ i → (k = 0 ↔ ¬ (0 < i ∧ isN (pv l i).2 = true)) → f_X5_longestRise_6 K m x f y (nI k) (nI i) = some (foldI (riseF l) (y, k) i (l.drop i)).1
  | 0, _, _, _, _, h, _, _ => absurd h (Nat.not_lt_zero _)
  | f + 1, i, y, k, hi, hf, hk, hk0 => by
    have hl := pt_len h
    have unf : f_X5_longestRise_6 K m x (f + 1) y (nI k) (nI i) = f_X5_longestRise_6B K m x (f_X5_longestRise_6 K m x f) y (nI k) (nI i) := rfl
    rw [unf]
    unfold f_X5_longestRise_6B f_X5_longestRise_65 f_X5_longestRise_67
    by_cases c : l.length ≤ i
    · rw [if_pos (pt_end h c (by omega)), List.drop_eq_nil_of_le c]; rfl
    · obtain ⟨q, hq⟩ := get_some (l := l) (i := i) (by omega)
      obtain ⟨c1, e1, e2, e3, e4⟩ := pt_at h hq
      rw [if_neg c1, e2, bind_e, e4, bind_e, isNumber_ok, bind_e]
      simp only [max_ok, bind_e, bd_e, nI_1, e2, e4, order_ok]
      have hpv : pv l (i + 1) = q := by unfold pv; rw [Nat.add_sub_cancel, hq]; rfl
      have go : ∀ k' : Nat, k' = riseN l k i q → f_X5_longestRise_6 K m x f (max32 y (nI k')) (nI k') (nI (i + 1)) = some (foldI (riseF l) (y, k) i (l.drop i)).1 := by
        intro k' hk'
        rw [drop_get hq]
        show _ = some (foldI (riseF l) (max32 y (nI (riseN l k i q)), riseN l k i q) (i + 1) (l.drop (i + 1))).1
        rw [← hk']
        refine riseL h f (i + 1) _ k' (by omega) (by omega) ?_ ?_
        · rw [hk']; unfold riseN; split
          · omega
          split <;> omega
        · rw [hpv, hk']
          unfold riseN
          cases hN : isN q.2 with
          | false => simp
          | true => simp; split <;> omega
      cases hN : isN q.2 with
      | false =>
        rw [if_pos (by decide)]
        exact go 0 (by unfold riseN; rw [hN]; simp)
      | true =>
        rw [if_neg (by decide)]
        by_cases ck : k = 0
        · rw [if_pos (by rw [ck]; decide)]
          refine go 1 ?_
          unfold riseN
          rw [if_neg (fun z => hk0.mp ck ⟨z.1, z.2.1⟩), hN]; rfl
        · have hh : 0 < i ∧ isN (pv l i).2 = true := by
            by_cases hz : 0 < i ∧ isN (pv l i).2 = true
            · exact hz
            · exact absurd (hk0.mpr hz) ck
          rw [if_neg (nI_nle (by omega) (by omega)), (pt_pv h (i := i) (by omega) (by omega)).2, bind_e]
          by_cases co : ordA (pv l i).2 < ordA q.2
          · rw [if_neg (fun z => absurd ((lg_cmp_le _ _).mp z) (by rw [nle64]; exact co))]
            refine go (k + 1) ?_
            unfold riseN
            rw [if_pos ⟨hh.1, hh.2, hN, co⟩]
          · rw [if_pos ((lg_cmp_le _ _).mpr (nlt64.mp co))]
            refine go 1 ?_
            unfold riseN
            rw [if_neg (fun z => co z.2.2.2), hN]; rfl
theorem longestRise_ok {K : Kn} {m : Mem} {x n : Nat} {l : List Pt} (h : ptR K m x n l) : F_X5_longestRise K m x = some (riseA l) := by
  have := riseL h FU 0 0 0 (Nat.zero_le _) (by rw [FU_e]; have := pt_len h; omega) (Nat.le_refl _) (by simp)
  rw [List.drop_zero] at this
  exact this
/-- how often a number is passed -/
def passF (l : List Pt) (o : Int64) (x : Int32) (i : Nat) (q : Pt) : Int32 := if isN (pv l i).2 = true ∧ isN q.2 = true ∧ decide (ordA (pv l i).2 < o) ≠ decide (ordA q.2 < o) then x + 1 else x
def passA (l : List Pt) (o : Int64) : Int32 := foldI (passF l o) 0 1 (l.drop 1)
theorem passings_ok {K : Kn} {m : Mem} {x n : Nat} {l : List Pt} (h : ptR K m x n l) (lim : Int64) : F_X5_passings K m x lim = some (passA l (ordA lim)) := by
  have hl := pt_len h
  unfold F_X5_passings f_X5_passings
  rw [order_ok, bind_e]
  refine scanLo l 1 (fun n (y : Int32) i => f_X5_passings_11 K m x lim n y (ordA lim) (nI i)) (passF l (ordA lim)) (fun y => y) (fun n y i q hi hq => ?_) (fun n y i hi hi2 => ?_) FU 1 0 (Nat.le_refl _) (by omega) (by rw [FU_e]; omega)
  · obtain ⟨c1, e1, e2, e3, e4⟩ := pt_at h hq
    have hil := (List.getElem?_eq_some_iff.mp hq).1
    obtain ⟨p1, p2⟩ := pt_pv h (i := i) (by omega) hi
    show f_X5_passings_11B K m x lim (f_X5_passings_11 K m x lim n) y (ordA lim) (nI i) = _
    unfold f_X5_passings_11B f_X5_passings_98 f_X5_passings_71 f_X5_passings_92 f_X5_passings_98
    rw [if_neg c1]
    simp only [bd_e, nI_1, bind_e, e2, e4, p2, isNumber_ok, order_ok, b01]
    unfold passF
    cases h1 : isN (pv l i).2 with
    | false => simp
    | true =>
      cases h2 : isN q.2 with
      | false => simp
      | true =>
        by_cases o1 : ordA (pv l i).2 < ordA lim
        · have n1 : ¬ 0 ≤ lg_cmp (ordA (pv l i).2) (ordA lim) := fun z => absurd ((lg_cmp_ge _ _).mp z) (by rw [nle64]; exact o1)
          by_cases o2 : ordA q.2 < ordA lim
          · have n2 : ¬ 0 ≤ lg_cmp (ordA q.2) (ordA lim) := fun z => absurd ((lg_cmp_ge _ _).mp z) (by rw [nle64]; exact o2)
            simp [n1, n2, o1, o2]
          · have n2 : 0 ≤ lg_cmp (ordA q.2) (ordA lim) := (lg_cmp_ge _ _).mpr (nlt64.mp o2)
            simp [n1, n2, o1, o2]
        · have n1 : 0 ≤ lg_cmp (ordA (pv l i).2) (ordA lim) := (lg_cmp_ge _ _).mpr (nlt64.mp o1)
          by_cases o2 : ordA q.2 < ordA lim
          · have n2 : ¬ 0 ≤ lg_cmp (ordA q.2) (ordA lim) := fun z => absurd ((lg_cmp_ge _ _).mp z) (by rw [nle64]; exact o2)
            simp [n1, n2, o1, o2]
          · have n2 : 0 ≤ lg_cmp (ordA q.2) (ordA lim) := (lg_cmp_ge _ _).mpr (nlt64.mp o2)
            simp [n1, n2, o1, o2]
  · show f_X5_passings_11B K m x lim (f_X5_passings_11 K m x lim n) y (ordA lim) (nI i) = _
    unfold f_X5_passings_11B
    rw [if_pos (pt_end h hi (by omega))]
