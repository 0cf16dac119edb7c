/-! ===== sums and areas ===== -/
def nanW : Int64 := 9221120237041090560
def addA (a b : Int64) : Int64 := (FP.dadd a.toUInt64 b.toUInt64).toInt64
def mulA (a x : Int64) : Int64 := (FP.dmul a.toUInt64 (FP.l2d x)).toInt64
theorem ofN64 (n : Nat) : (UInt64.ofNat n).toInt64 = lN n := rfl
theorem uN_to (x : Int64) : x.toUInt64.toNat = uN x := rfl
theorem addA_N (a b : Int64) : addA a b = lN (FP.Core.add FP.Core.b64 (uN a) (uN b)) := rfl
theorem mulA_N (a x : Int64) : mulA a x = lN (FP.Core.mul FP.Core.b64 (uN a) (FP.Core.l2d x).toNat) := rfl
theorem isN_u (x : Int64) : isN x = decide (uN x % 2 ^ 63 ≤ 2047 * FP.Core.b64.tails) := by
  rw [← isN_N (uN_lt x), lN_uN]
theorem isN_enc {d : FP.Core.Datum} (h : FP.Core.fits FP.Core.b64 d) (hn : d ≠ .nan) : isN (lN (FP.Core.encode FP.Core.b64 d)) = true ∧ FP.Core.encode FP.Core.b64 d < 2 ^ 64 := by
  have h1 := FP.Core.encode_lt FP.Core.good_b64 d h
  rw [FP.Core.size_b64] at h1
  refine ⟨?_, h1⟩
  rw [isN_N h1, decide_eq_true_eq]
  have h2 := FP.Core.decode_encode FP.Core.good_b64 d h
  rcases Nat.lt_or_ge (2047 * FP.Core.b64.tails) (FP.Core.encode FP.Core.b64 d % 2 ^ 63) with h3 | h3
  · have := (FP.Core.decode_nan (f := FP.Core.b64) (FP.Core.encode FP.Core.b64 d)).mpr (by unfold FP.Core.mag; rw [FP.Core.half_b64, inf63]; exact h3)
    rw [h2] at this
    exact absurd this hn
  · exact h3
theorem plus_A {a b : Int64} (ha : isN a = true) (hb : isN b = true) : F_X3_plus a b = some (addA a b) := by
  rw [isN_u, decide_eq_true_eq] at ha hb
  have := plus_N (uN_lt a) (uN_lt b) ha hb
  rw [lN_uN, lN_uN] at this
  rw [this, addA_N]
theorem dec_num {a : Int64} (h : isN a = true) : FP.Core.decode FP.Core.b64 (uN a) ≠ .nan := fun z => by
  rw [isN_u, decide_eq_true_eq] at h
  have := (FP.Core.decode_nan (f := FP.Core.b64) (uN a)).mp z
  unfold FP.Core.mag at this
  rw [FP.Core.half_b64, inf63] at this
  omega
theorem addA_num {a b : Int64} : isN (addA a b) = true ∨ addA a b = nanW := by
  rw [addA_N]
  unfold FP.Core.add
  by_cases c : FP.Core.round FP.Core.b64 (FP.Core.exactSum (FP.Core.decode FP.Core.b64 (uN a)) (FP.Core.decode FP.Core.b64 (uN b))) = .nan
  · right; rw [c, nan64]; rfl
  · left; exact (isN_enc (FP.Core.round_fits FP.Core.good_b64 _) c).1
theorem isN_nan : isN nanW = false := by decide +kernel
theorem addA_nan (b : Int64) : addA nanW b = nanW := by
  rw [addA_N]
  have : FP.Core.decode FP.Core.b64 (uN nanW) = .nan := by decide +kernel
  unfold FP.Core.add
  rw [this]
  show lN (FP.Core.encode FP.Core.b64 .nan) = _
  rw [nan64]; rfl
theorem prod_num {a : Int64} {x : Int64} {w : Nat} (ha : isN a = true) (hx : x.toInt = w) (hw1 : 1 ≤ w) (hw : w < 2147483648) : isN (mulA a x) = true := by
  rw [mulA_N]
  rw [isN_u, decide_eq_true_eq] at ha
  by_cases c : uN a % 2 ^ 63 = 2047 * FP.Core.b64.tails
  · unfold FP.Core.mul
    rw [dec_inf (uN_lt a) c, l2d_inf hx hw1 hw]
    exact (isN_enc (d := .inf (sgN (uN a))) trivial (by simp)).1
  · rw [mul_fin (uN_lt a) (by omega) hx hw]
    exact (isN_enc (FP.Core.roundRatio_fits FP.Core.good_b64 _ _ (by decide) _) (FP.Core.roundRatio_ne_nan _ _ _ _ _)).1
theorem times_A {a : Int64} {w : Nat} (ha : isN a = true) (hw1 : 1 ≤ w) (hw : w < 2147483648) : F_X3_times a (nI w) = some (mulA a (lN w)) ∧ isN (mulA a (lN w)) = true := by
  have hx : (lN w).toInt = w := pf_lI (by omega)
  refine ⟨?_, prod_num ha hx hw1 hw⟩
  rw [isN_u, decide_eq_true_eq] at ha
  have := times_N (uN_lt a) ha hx hw1 hw
  rw [lN_uN] at this
  rw [this, mulA_N]
def totA (l : List Pt) (x : Int64) : Int64 := l.foldl (fun y q => addA y q.2) x
theorem tot_nan (l : List Pt) : totA l nanW = nanW := by
  induction l with
  | nil => rfl
  | cons q l ih =>
    show totA l (addA nanW q.2) = nanW
    rw [addA_nan]; exact ih
theorem total_loop {K : Kn} {m : Mem} {x n : Nat} {l : List Pt} (h : ptR K m x n l) (hN : ∀ q ∈ l, isN q.2 = true) : ∀ (f i : Nat) (y : Int64), i ≤ l.length → l.length - i < f → isN y = true ∨ y = nanW → f_X5_total_4 K m x f y (nI i) = some (totA (l.drop i) y)
  | 0, _, _, _, h, _ => absurd h (Nat.not_lt_zero _)
  | f + 1, i, y, hi, hf, hy => by
    have unf : f_X5_total_4 K m x (f + 1) y (nI i) = f_X5_total_4B K m x (f_X5_total_4 K m x f) y (nI i) := rfl
    rw [unf]
    unfold f_X5_total_4B f_X5_total_37
    rw [show (9221120237041090560 : Int64) = nanW from rfl]
    have hl := pt_len h
    by_cases c : i = l.length
    · rw [if_pos (pt_end h (by omega) (by omega)), c, List.drop_eq_nil_of_le (Nat.le_refl _)]; rfl
    · obtain ⟨q, hq⟩ := get_some (l := l) (i := i) (by omega)
      obtain ⟨c1, e1, e2, e3, e4⟩ := pt_at h hq
      rw [if_neg c1]
      by_cases cy : y = nanW
      · rw [if_pos ((lg_cmp_eq _ _).mpr cy), cy, tot_nan]
      · rw [if_neg (fun z => cy ((lg_cmp_eq _ _).mp z)), e2, bind_e, e4, bind_e, plus_A (hy.resolve_right cy) (hN q (List.mem_of_getElem? hq)), bind_e]
        simp only [bd_e]
        rw [nI_1, total_loop h hN f (i + 1) _ (by omega) (by omega) addA_num, drop_get hq]
        rfl
theorem total_ok {K : Kn} {m : Mem} {x n : Nat} {l : List Pt} (h : ptR K m x n l) (hN : ∀ q ∈ l, isN q.2 = true) : F_X5_total K m x = some (totA l 0) := by
  unfold F_X5_total f_X5_total
  have hl := pt_len h
  have := total_loop h hN FU 0 0 (by omega) (by rw [FU_e]; omega) (Or.inl (by decide))
  rw [List.drop_zero] at this
  exact this
/-- each number for as long as it is the last one -/
def areA : List Pt → Int64 → Int64
  | p :: q :: l, x => areA (q :: l) (if isN p.2 = true then addA x (mulA p.2 (lN (q.1 - p.1))) else x)
  | _, x => x
theorem are_nan : ∀ l : List Pt, areA l nanW = nanW
  | [] => rfl
  | [_] => rfl
  | p :: q :: l => by
    show areA (q :: l) (if isN p.2 = true then addA nanW (mulA p.2 (lN (q.1 - p.1))) else nanW) = nanW
    rw [addA_nan]
    rw [show (if isN p.2 = true then nanW else nanW) = nanW by split <;> rfl]
    exact are_nan (q :: l)
theorem are_end {l : List Pt} {i : Nat} {x : Int64} (h : l.length ≤ i + 1) : areA (l.drop i) x = x := by
  have : (l.drop i).length ≤ 1 := by rw [List.length_drop]; omega
  cases hd : l.drop i with
  | nil => rfl
  | cons a t => cases t with
    | nil => rfl
    | cons b t => rw [hd] at this; simp at this
theorem surface_loop {K : Kn} {m : Mem} {x n : Nat} {l : List Pt} (h : ptR K m x n l) (hs : srt l) (hle : ∀ q ∈ l, q.1 ≤ 2000000000) : ∀ (f i : Nat) (y : Int64), i ≤ l.length → l.length - i < f → isN y = true ∨ y = nanW → f_X5_surface_4 K m x f y (nI i) = some (areA (l.drop i) y)
  | 0, _, _, _, h, _ => absurd h (Nat.not_lt_zero _)
  | f + 1, i, y, hi, hf, hy => by
    have unf : f_X5_surface_4 K m x (f + 1) y (nI i) = f_X5_surface_4B K m x (f_X5_surface_4 K m x f) y (nI i) := rfl
    rw [unf]
    unfold f_X5_surface_4B f_X5_surface_69 f_X5_surface_63
    rw [show (9221120237041090560 : Int64) = nanW from rfl]
    have hl := pt_len h
    rw [h.2.2.2.2.2.1]
    by_cases c0 : l.length = 0
    · rw [c0, if_pos (show nI 0 - (1 : Int32) ≤ nI i by
        rw [fa_le, nI_toInt (by omega)]
        show (-1 : Int) ≤ i
        omega), are_end (by omega)]
    rw [show nI l.length - (1 : Int32) = nI (l.length - 1) from pk_sub (b := 1) (by omega)]
    by_cases c : l.length - 1 ≤ i
    · rw [if_pos ((nI_leI (by omega) (by omega)).mpr c), are_end (by omega)]
    · rw [if_neg (fun z => c ((nI_leI (by omega) (by omega)).mp z))]
      obtain ⟨p, hp⟩ := get_some (l := l) (i := i) (by omega)
      obtain ⟨q, hq⟩ := get_some (l := l) (i := i + 1) (by omega)
      obtain ⟨c1, e1, e2, e3, e4⟩ := pt_at h hp
      obtain ⟨-, -, -, e5, -⟩ := pt_at h hq
      by_cases cy : y = nanW
      · rw [if_pos ((lg_cmp_eq _ _).mpr cy), cy, are_nan]
      · rw [if_neg (fun z => cy ((lg_cmp_eq _ _).mp z)), e2, bind_e, e4, bind_e, isNumber_ok, bind_e, drop_get hp, drop_get hq]
        have hpq : p.1 < q.1 := by
          have := List.pairwise_iff_getElem.mp hs i (i + 1) (by omega) (by omega) (by omega)
          rw [(List.getElem?_eq_some_iff.mp hp).2, (List.getElem?_eq_some_iff.mp hq).2] at this
          exact this
        have hq2 : q.1 ≤ 2000000000 := hle q (List.mem_of_getElem? hq)
        show _ = some (areA (q :: l.drop (i + 1 + 1)) (if isN p.2 = true then addA y (mulA p.2 (lN (q.1 - p.1))) else y))
        rw [← drop_get hq]
        by_cases cn : isN p.2 = true
        · obtain ⟨t1, t2⟩ := times_A (w := q.1 - p.1) cn (by omega) (by omega)
          rw [if_pos cn, if_neg (by decide), bind_e, e4, bind_e, e1, bind_e, nI_1, e5, bind_e, bind_e, e3, bind_e, pk_sub (by omega), t1, bind_e, plus_A (hy.resolve_right cy) t2, bind_e, if_pos cn]
          simp only [bd_e]
          exact surface_loop h hs hle f (i + 1) _ (by omega) (by omega) addA_num
        · rw [if_neg cn, if_pos rfl, if_neg cn]
          simp only [bd_e]
          rw [nI_1]
          exact surface_loop h hs hle f (i + 1) _ (by omega) (by omega) hy
theorem surface_ok {K : Kn} {m : Mem} {x n : Nat} {l : List Pt} (h : ptR K m x n l) (hs : srt l) (hle : ∀ q ∈ l, q.1 ≤ 2000000000) : F_X5_surface K m x = some (areA l 0) := by
  unfold F_X5_surface f_X5_surface
  have hl := pt_len h
  have := surface_loop h hs hle FU 0 0 (by omega) (by rw [FU_e]; omega) (Or.inl (by decide))
  rw [List.drop_zero] at this
  exact this
def aArea (s : St) (x f t : Int32) : Int64 := match sl s x with
  | none => nanW
  | some S => if f ≤ t then areA (spanP S f.toInt t.toInt) 0 else nanW
theorem span_srt {S : Sr} (h : srOk S) (f t : Int) : srt (spanP S f t) := (allP_spec h).1.sublist List.filter_sublist
theorem area_ok {K : Kn} {m : Mem} {B : Nat} {s : St} (hok : stOk s) (h : RX K m B s) (x f t : Int32) : okX K m B (F_X8_area K m B x f t) (aArea s x f t) s := by
  unfold F_X8_area f_X8_area aArea
  rcases isNone_c h x with ⟨hs, hn⟩ | ⟨S, hs, hn⟩
  · rw [hn, hs, bind_e, if_neg (by decide)]; exact okX.same h
  · rw [hn, hs, bind_e, if_pos rfl]
    dsimp only
    by_cases c0 : f ≤ t
    · rw [if_pos c0, if_pos c0]
      obtain ⟨m', e1, e2, e3, e4, e5⟩ := spn hok h hs f t
      rw [e1, mine_o e3, bind_e, surface_ok e2 (span_srt (sl_ok hok hs) _ _) (span_le (sl_ok hok hs) _ _), bind_e]
      exact ⟨m', rfl, e3, offq_off e4, e5⟩
    · rw [if_neg c0, if_neg c0]; exact okX.same h
/-- a value of a span -/
def aValue (s : St) (x f t w : Int32) : Int64 := match sl s x with
  | none => nanW
  | some S => if t < f then nanW else if w < 0 then nanW else if w ≤ (4 : Int32) then (match numP S f.toInt t.toInt with
    | [] => nanW
    | q :: l => if w = 0 then q.2 else if w = 1 then ((q :: l).getLast?.getD (0, 0)).2 else if w = 2 then leastA (q :: l) else if w = 3 then greatA (q :: l) else totA (q :: l) 0) else nanW
theorem nlt32 {a b : Int32} : ¬ a < b ↔ b ≤ a := by rw [fa_lt, fa_le]; omega
theorem value_ok {K : Kn} {m : Mem} {B : Nat} {s : St} (hok : stOk s) (h : RX K m B s) (x f t w : Int32) : okX K m B (F_X8_value K m B x f t w) (aValue s x f t w) s := by
  unfold F_X8_value f_X8_value aValue
  rcases isNone_c h x with ⟨hs, hn⟩ | ⟨S, hs, hn⟩
  · rw [hn, hs, bind_e, if_neg (by decide)]; exact okX.same h
  · rw [hn, hs, bind_e, if_pos rfl]
    dsimp only
    by_cases c0 : t < f
    · rw [if_pos c0, if_pos c0]; exact okX.same h
    rw [if_neg c0, if_neg c0]
    by_cases c1 : w < 0
    · rw [if_pos c1, if_pos c1]; exact okX.same h
    rw [if_neg c1, if_neg c1]
    by_cases c2 : w ≤ (4 : Int32)
    · rw [if_pos c2, if_pos c2]
      obtain ⟨m', e1, e2, e3, e4, e5⟩ := spn hok h hs f t
      obtain ⟨m2, k1, k2, k3, k4, k5⟩ := keepN hok e3 e2
      rw [e1, mine_o e3, bind_e, k1, bind_e, mine_o k3, bind_e, k2.2.2.2.2.2.1]
      have hl := pt_len k2
      change okX K m B (if nI (numP S f.toInt t.toInt).length = 0 then _ else _) _ _
      have k2' : ptR K m2 (B + 192) 11812 (numP S f.toInt t.toInt) := k2
      have hnum : ∀ q ∈ numP S f.toInt t.toInt, isN q.2 = true := fun q hq => (List.mem_filter.mp hq).2
      have hll : (numP S f.toInt t.toInt).length < 1000000 := hl.1
      have wit : ∀ v : Int64, okX K m B (some (v, m2)) v s := fun v => ⟨m2, rfl, k3, offq_off (e4.trans k4), k5.trans e5⟩
      generalize numP S f.toInt t.toInt = L at k2' hnum hll
      cases L with
      | nil => rw [if_pos (show nI ([] : List Pt).length = 0 from rfl)]; exact wit _
      | cons q l =>
        rw [if_neg (fun z => by have := (nI_zero (by omega)).mp z; simp at this)]
        dsimp only
        unfold f_X8_value_100 f_X8_value_110 f_X8_value_128 f_X8_value_136 f_X8_value_144
        simp only [mine_o k3, bind_e]
        by_cases w0 : w = 0
        · rw [if_pos w0, if_pos w0, ldA_n k2'.2.1 k2'.2.2.2.2.1, bind_e, (at0 k2' (by simp)).1, bind_e]
          exact wit _
        rw [if_neg w0, if_neg w0]
        by_cases w1 : w = 1
        · rw [if_pos w1, if_pos w1, ldA_n k2'.2.1 k2'.2.2.2.2.1, bind_e, k2'.2.2.2.2.2.1, show nI (q :: l).length - (1 : Int32) = nI ((q :: l).length - 1) from pk_sub (b := 1) (by simp)]
          obtain ⟨z, hz⟩ := get_some (l := q :: l) (i := (q :: l).length - 1) (by simp)
          rw [(k2'.at hz).2, bind_e, List.getLast?_eq_getElem?, hz]
          exact wit _
        rw [if_neg w1, if_neg w1]
        by_cases w2 : w = 2
        · rw [if_pos w2, if_pos w2, leastOf_ok k2' (by simp), bind_e]; exact wit _
        rw [if_neg w2, if_neg w2]
        by_cases w3 : w = 3
        · rw [if_pos w3, if_pos w3, greatestOf_ok k2' (by simp), bind_e]; exact wit _
        · rw [if_neg w3, if_neg w3, total_ok k2' hnum, bind_e]; exact wit _
    · rw [if_neg c2, if_neg c2]; exact okX.same h
