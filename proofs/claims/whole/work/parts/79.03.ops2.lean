/-! ===== calls of the class: points ===== -/
def stm (x : Int32) : Bool := decide (0 ≤ x.toInt ∧ x.toInt ≤ 2000000000)
theorem isStamp_x (x : Int32) : F_X8_isStamp x = some (if stm x = true then 1 else 0) := by
  unfold stm
  by_cases c : x < 0
  · unfold F_X8_isStamp f_X8_isStamp f_X8_isStamp_15
    rw [if_pos c, if_neg]
    rw [decide_eq_true_eq]
    rw [fa_lt] at c
    have : x.toInt < 0 := c
    omega
  · obtain ⟨n, hn, rfl, -⟩ := idx_nI c
    rw [isStamp_n (by omega), nI_toInt (by omega)]
    by_cases h : n ≤ 2000000000
    · rw [if_pos h, if_pos (by rw [decide_eq_true_eq]; omega)]
    · rw [if_neg h, if_neg (by rw [decide_eq_true_eq]; omega)]
theorem stm_nI {x : Int32} (h : stm x = true) : ∃ t, t ≤ 2000000000 ∧ x = nI t ∧ x.toInt = t := by
  have := of_decide_eq_true h
  refine ⟨x.toInt.toNat, by omega, ?_, by omega⟩
  rw [← iZ_nat, show ((x.toInt.toNat : Nat) : Int) = x.toInt by omega, iZ_of]
theorem mine_o {K : Kn} {m : Mem} {B : Nat} {s : St} (h : RX K m B s) : ldO K m B 2 4 = some (B + 192) := ldO_n h.2.1.2.1 h.2.2.1.2.1.2.2.1
/-- a span gathered, whatever follows -/
theorem spn {K : Kn} {m : Mem} {B : Nat} {s : St} (hok : stOk s) (h : RX K m B s) {x : Int32} {S : Sr} (hs : sl s x = some S) (x1 x2 : Int32) : ∃ m', (∀ {γ : Type} (k : Mem → Option γ), ((ldA K m B 0 3).bind fun b5 => (alO K m b5 x 6).bind fun b6 => (ldO K m B 5 5).bind fun b7 => (ldO K m B 2 4).bind fun b8 => (F_X7_gather K m b6 x1 x2 b7 b8).bind k) = k m') ∧ ptR K m' (B + 192) 11812 (spanP S x1.toInt x2.toInt) ∧ RX K m' B s ∧ eqOn (offq B) m m' ∧ szm m' = szm m := by
  obtain ⟨j, a, hj, rfl, hsj, hS, e1, e2, e3, e4⟩ := h.at hok hs
  obtain ⟨m', g1, g2, g3, g4, g5⟩ := gath hok h hS e3 e4 x1 x2
  refine ⟨m', fun {γ} k => ?_, g2, g3, g4, g5⟩
  rw [e1, bind_e, e2, bind_e, ldO_n h.2.1.2.2.2.2.1 h.2.2.1.1.2.1, bind_e, mine_o h, bind_e, g1, bind_e]
theorem span_le {S : Sr} (h : srOk S) (x y : Int) : ∀ q ∈ spanP S x y, q.1 ≤ 2000000000 := fun q hq => allP_le h q (List.mem_filter.mp hq).1
def aHas (s : St) (x t : Int32) : Int32 := match sl s x with
  | none => -2
  | some S => if stm t = true then (if (spanP S t.toInt t.toInt).length = 0 then 0 else 1) else -2
theorem has_ok {K : Kn} {m : Mem} {B : Nat} {s : St} (hok : stOk s) (h : RX K m B s) (x t : Int32) : okX K m B (F_X8_has K m B x t) (aHas s x t) s := by
  unfold F_X8_has f_X8_has aHas
  rcases isNone_c h x with ⟨hs, hn⟩ | ⟨S, hs, hn⟩
  · rw [hn, hs, bind_e, if_neg (by decide)]; exact okX.same h
  · rw [hn, hs, bind_e, if_pos rfl, isStamp_x, bind_e]
    dsimp only
    by_cases ct : stm t = true
    · rw [if_pos ct, if_pos ct, if_neg (by decide)]
      obtain ⟨m', e1, e2, e3, e4, e5⟩ := spn hok h hs t t
      have hl := pt_len e2
      rw [e1, mine_o e3, bind_e, e2.2.2.2.2.2.1]
      by_cases c : (spanP S t.toInt t.toInt).length = 0
      · rw [c, if_pos (by decide), if_pos rfl]; exact ⟨m', rfl, e3, offq_off e4, e5⟩
      · rw [if_neg (nI_nle (by omega) (by omega)), if_neg c]; exact ⟨m', rfl, e3, offq_off e4, e5⟩
    · rw [if_neg ct, if_neg ct, if_pos rfl]; exact okX.same h
def aAt (s : St) (x t : Int32) : Int64 := match sl s x with
  | none => 0
  | some S => if stm t = true then hd0 (spanP S t.toInt t.toInt) else 0
theorem at_ok {K : Kn} {m : Mem} {B : Nat} {s : St} (hok : stOk s) (h : RX K m B s) (x t : Int32) : okX K m B (F_X8_at K m B x t) (aAt s x t) s := by
  unfold F_X8_at f_X8_at aAt
  rcases isNone_c h x with ⟨hs, hn⟩ | ⟨S, hs, hn⟩
  · rw [hn, hs, bind_e, if_neg (by decide)]; exact okX.same h
  · rw [hn, hs, bind_e, if_pos rfl, isStamp_x, bind_e]
    dsimp only
    by_cases ct : stm t = true
    · rw [if_pos ct, if_pos ct, if_neg (by decide)]
      obtain ⟨m', e1, e2, e3, e4, e5⟩ := spn hok h hs t t
      have hl := pt_len e2
      rw [e1, mine_o e3, bind_e, e2.2.2.2.2.2.1]
      by_cases c : (spanP S t.toInt t.toInt).length = 0
      · rw [c, if_pos (by decide), List.length_eq_zero_iff.mp c]; exact ⟨m', rfl, e3, offq_off e4, e5⟩
      · rw [if_neg (nI_nle (by omega) (by omega)), bind_e, ldA_n e2.2.1 e2.2.2.2.2.1, bind_e, (at0 e2 (by omega)).1, bind_e]; exact ⟨m', rfl, e3, offq_off e4, e5⟩
    · rw [if_neg ct, if_neg ct, if_pos rfl]; exact okX.same h
def aNearest (s : St) (x t : Int32) : Int32 := match sl s x with
  | none => -2
  | some S => if stm t = true then nearA (allP S) t.toNatClampNeg else -2
theorem nearest_ok {K : Kn} {m : Mem} {B : Nat} {s : St} (hok : stOk s) (h : RX K m B s) (x t : Int32) : okX K m B (F_X8_nearest K m B x t) (aNearest s x t) s := by
  unfold F_X8_nearest f_X8_nearest aNearest
  rcases isNone_c h x with ⟨hs, hn⟩ | ⟨S, hs, hn⟩
  · rw [hn, hs, bind_e, if_neg (by decide)]; exact okX.same h
  · rw [hn, hs, bind_e, if_pos rfl, isStamp_x, bind_e]
    dsimp only
    by_cases ct : stm t = true
    · rw [if_pos ct, if_pos ct, if_neg (by decide)]
      obtain ⟨m', g1, g2, g3, g4, g5⟩ := gathered_ok hok h hs
      obtain ⟨n, hn2, rfl, -⟩ := stm_nI ct
      have hS := (h.at hok hs).choose_spec.choose_spec.2.2.2.1
      rw [g1, bind_e, gd_t g2.2.2.1, closest_ok g2 (allP_le hS) hn2, bind_e, nI_clamp (by omega)]
      exact ⟨m', rfl, g3, offq_off g4, g5⟩
    · rw [if_neg ct, if_neg ct, if_pos rfl]; exact okX.same h
def aPoint (s : St) (x i w : Int32) : Int64 := match sl s x with
  | none => -1
  | some S => if w < 0 then -1 else if (1 : Int32) < w then -1 else if 0 ≤ i then (if i < nI (allP S).length then (if w = 0 then (nI (((allP S)[i.toNatClampNeg]?).getD (0, 0)).1).toInt64 else (((allP S)[i.toNatClampNeg]?).getD (0, 0)).2) else -1) else -1
theorem point_ok {K : Kn} {m : Mem} {B : Nat} {s : St} (hok : stOk s) (h : RX K m B s) (x i w : Int32) : okX K m B (F_X8_point K m B x i w) (aPoint s x i w) s := by
  unfold F_X8_point f_X8_point aPoint
  rcases isNone_c h x with ⟨hs, hn⟩ | ⟨S, hs, hn⟩
  · rw [hn, hs, bind_e, if_neg (by decide)]; exact okX.same h
  · rw [hn, hs, bind_e, if_pos rfl]
    dsimp only
    by_cases c1 : w < 0
    · rw [if_pos c1, if_pos c1]; exact okX.same h
    rw [if_neg c1, if_neg c1]
    by_cases c2 : (1 : Int32) < w
    · rw [if_pos c2, if_pos c2]; exact okX.same h
    rw [if_neg c2, if_neg c2]
    by_cases c3 : 0 ≤ i
    · rw [if_pos c3, if_pos c3]
      obtain ⟨m', g1, g2, g3, g4, g5⟩ := gathered_ok hok h hs
      have hl := pt_len g2
      rw [g1, bind_e, gd_t g2.2.2.1, g2.2.2.2.2.2.1]
      have c3' : ¬ i < 0 := fun z => by rw [fa_lt] at z; rw [fa_le] at c3; omega
      obtain ⟨n, hn2, rfl, hcl⟩ := idx_nI c3'
      rw [hcl]
      by_cases c4 : nI n < nI (allP S).length
      · rw [if_pos c4, if_pos c4]
        have c5 : n < (allP S).length := (nI_ltI (by omega) (by omega)).mp c4
        obtain ⟨q, hq⟩ := get_some (l := allP S) (i := n) c5
        obtain ⟨-, b1, b2, b3, b4⟩ := pt_at g2 hq
        rw [hq]
        by_cases w0 : w = 0
        · rw [if_pos w0, if_pos w0, b1, bind_e, b3, bind_e]; exact ⟨m', rfl, g3, offq_off g4, g5⟩
        · rw [if_neg w0, if_neg w0, b2, bind_e, b4, bind_e]; exact ⟨m', rfl, g3, offq_off g4, g5⟩
      · rw [if_neg c4, if_neg c4]; exact ⟨m', rfl, g3, offq_off g4, g5⟩
    · rw [if_neg c3, if_neg c3]; exact okX.same h
def lastA (l : List Pt) : Int32 := match l.getLast? with
  | none => -1
  | some q => nI q.1
def aSince (s : St) (x t : Int32) : Int32 := match sl s x with
  | none => -2
  | some S => if stm t = true then lastA (spanP S 0 t.toInt) else -2
theorem since_ok {K : Kn} {m : Mem} {B : Nat} {s : St} (hok : stOk s) (h : RX K m B s) (x t : Int32) : okX K m B (F_X8_since K m B x t) (aSince s x t) s := by
  unfold F_X8_since f_X8_since aSince
  rcases isNone_c h x with ⟨hs, hn⟩ | ⟨S, hs, hn⟩
  · rw [hn, hs, bind_e, if_neg (by decide)]; exact okX.same h
  · rw [hn, hs, bind_e, if_pos rfl, isStamp_x, bind_e]
    dsimp only
    by_cases ct : stm t = true
    · rw [if_pos ct, if_pos ct, if_neg (by decide)]
      obtain ⟨m', e1, e2, e3, e4, e5⟩ := spn hok h hs 0 t
      rw [e1, mine_o e3, bind_e, lastStamp_ok e2, bind_e]
      exact ⟨m', rfl, e3, offq_off e4, e5⟩
    · rw [if_neg ct, if_neg ct, if_pos rfl]; exact okX.same h
def aGap (s : St) (x w : Int32) : Int32 := match sl s x with
  | none => -2
  | some S => if w < 0 then -2 else if w ≤ (1 : Int32) then (if w = 0 then (gapA (allP S)).1 else (gapA (allP S)).2) else -2
theorem gap_ok {K : Kn} {m : Mem} {B : Nat} {s : St} (hok : stOk s) (h : RX K m B s) (x w : Int32) : okX K m B (F_X8_gap K m B x w) (aGap s x w) s := by
  unfold F_X8_gap f_X8_gap aGap f_X8_gap_34
  rcases isNone_c h x with ⟨hs, hn⟩ | ⟨S, hs, hn⟩
  · rw [hn, hs, bind_e, if_neg (by decide)]; exact okX.same h
  · rw [hn, hs, bind_e, if_pos rfl]
    dsimp only
    by_cases c1 : w < 0
    · rw [if_pos c1, if_pos c1]; exact okX.same h
    rw [if_neg c1, if_neg c1]
    by_cases c2 : w ≤ (1 : Int32)
    · rw [if_pos c2, if_pos c2]
      obtain ⟨m', g1, g2, g3, g4, g5⟩ := gathered_ok hok h hs
      rw [g1, bind_e, gd_t g2.2.2.1]
      dsimp only
      by_cases w0 : w = 0
      · rw [if_pos w0, if_pos w0, longestGap_ok g2, bind_e]; exact ⟨m', rfl, g3, offq_off g4, g5⟩
      · rw [if_neg w0, if_neg w0, longestGap_ok g2, bind_e]; exact ⟨m', rfl, g3, offq_off g4, g5⟩
    · rw [if_neg c2, if_neg c2]; exact okX.same h
def aRow (s : St) (x w : Int32) : Int32 := match sl s x with
  | none => -2
  | some S => if w < 0 then -2 else if w ≤ (1 : Int32) then (if w = 0 then sameA (allP S) else riseA (allP S)) else -2
theorem row_ok {K : Kn} {m : Mem} {B : Nat} {s : St} (hok : stOk s) (h : RX K m B s) (x w : Int32) : okX K m B (F_X8_row K m B x w) (aRow s x w) s := by
  unfold F_X8_row f_X8_row aRow
  rcases isNone_c h x with ⟨hs, hn⟩ | ⟨S, hs, hn⟩
  · rw [hn, hs, bind_e, if_neg (by decide)]; exact okX.same h
  · rw [hn, hs, bind_e, if_pos rfl]
    dsimp only
    by_cases c1 : w < 0
    · rw [if_pos c1, if_pos c1]; exact okX.same h
    rw [if_neg c1, if_neg c1]
    by_cases c2 : w ≤ (1 : Int32)
    · rw [if_pos c2, if_pos c2]
      obtain ⟨m', g1, g2, g3, g4, g5⟩ := gathered_ok hok h hs
      rw [g1, bind_e, gd_t g2.2.2.1]
      dsimp only
      by_cases w0 : w = 0
      · rw [if_pos w0, if_pos w0, longestSame_ok g2, bind_e]; exact ⟨m', rfl, g3, offq_off g4, g5⟩
      · rw [if_neg w0, if_neg w0, longestRise_ok g2, bind_e]; exact ⟨m', rfl, g3, offq_off g4, g5⟩
    · rw [if_neg c2, if_neg c2]; exact okX.same h
def aPasses (s : St) (x : Int32) (v : Int64) : Int32 := match sl s x with
  | none => -2
  | some S => if isN v = true then passA (allP S) (ordA v) else -1
theorem passes_ok {K : Kn} {m : Mem} {B : Nat} {s : St} (hok : stOk s) (h : RX K m B s) (x : Int32) (v : Int64) : okX K m B (F_X8_passes K m B x v) (aPasses s x v) s := by
  unfold F_X8_passes f_X8_passes aPasses
  rcases isNone_c h x with ⟨hs, hn⟩ | ⟨S, hs, hn⟩
  · rw [hn, hs, bind_e, if_neg (by decide)]; exact okX.same h
  · rw [hn, hs, bind_e, if_pos rfl, isNumber_ok, bind_e]
    dsimp only
    by_cases ct : isN v = true
    · rw [if_pos ct, if_pos ct, if_neg (by decide)]
      obtain ⟨m', g1, g2, g3, g4, g5⟩ := gathered_ok hok h hs
      rw [g1, bind_e, gd_t g2.2.2.1, passings_ok g2, bind_e]
      exact ⟨m', rfl, g3, offq_off g4, g5⟩
    · rw [if_neg ct, if_neg ct, if_pos rfl]; exact okX.same h
def frstA (l : List Pt) : Int32 := match l[0]? with
  | none => -1
  | some q => nI q.1
def aSpan (s : St) (x f t w : Int32) : Int32 := match sl s x with
  | none => -2
  | some S => if t < f then -2 else if w < 0 then -2 else if w ≤ (6 : Int32) then (if w = 1 then opdA S.2.2.2 f.toInt t.toInt else if w = 0 then nI (spanP S f.toInt t.toInt).length else if w = 2 then frstA (spanP S f.toInt t.toInt) else if w = 3 then lastA (spanP S f.toInt t.toInt) else cntA (kindC w) (spanP S f.toInt t.toInt)) else -2
theorem span_ok {K : Kn} {m : Mem} {B : Nat} {s : St} (hok : stOk s) (h : RX K m B s) (x f t w : Int32) : okX K m B (F_X8_span K m B x f t w) (aSpan s x f t w) s := by
  unfold F_X8_span f_X8_span aSpan f_X8_span_96 f_X8_span_104 f_X8_span_128 f_X8_span_136
  rcases isNone_c h x with ⟨hs, hn⟩ | ⟨S, hs, hn⟩
  · rw [hn, hs, bind_e, if_neg (by decide)]; exact okX.same h
  · rw [hn, hs, bind_e, if_pos rfl]
    dsimp only
    by_cases c0 : t < f
    · rw [if_pos c0, if_pos c0]; exact okX.same h
    rw [if_neg c0, if_neg c0]
    by_cases c1 : w < 0
    · rw [if_pos c1, if_pos c1]; exact okX.same h
    rw [if_neg c1, if_neg c1]
    by_cases c2 : w ≤ (6 : Int32)
    · rw [if_pos c2, if_pos c2]
      by_cases w1 : w = 1
      · rw [if_pos w1, if_pos w1]
        obtain ⟨j, a, hj, rfl, hsj, hS, e1, e2, ⟨π, e3, e4⟩, e5⟩ := h.at hok hs
        rw [e1, bind_e, e2, bind_e, opened_ok e3 e4 hS, bind_e]; exact okX.same h
      rw [if_neg w1, if_neg w1]
      obtain ⟨m', e1, e2, e3, e4, e5⟩ := spn hok h hs f t
      have hl := pt_len e2
      rw [e1]
      simp only [mine_o e3, bind_e]
      by_cases w0 : w = 0
      · rw [if_pos w0, if_pos w0, e2.2.2.2.2.2.1]; exact ⟨m', rfl, e3, offq_off e4, e5⟩
      rw [if_neg w0, if_neg w0, if_neg w1]
      by_cases w2 : w = 2
      · rw [if_pos w2, if_pos w2, e2.2.2.2.2.2.1]
        unfold frstA
        by_cases c : (spanP S f.toInt t.toInt).length = 0
        · rw [c, if_pos (by decide), List.length_eq_zero_iff.mp c]; exact ⟨m', rfl, e3, offq_off e4, e5⟩
        · obtain ⟨q, hq⟩ := get_some (l := spanP S f.toInt t.toInt) (i := 0) (by omega)
          rw [if_neg (nI_nle (by omega) (by omega)), ldA_n e2.1 e2.2.2.2.1, bind_e, (at0 e2 (by omega)).2, bind_e, hq]; exact ⟨m', rfl, e3, offq_off e4, e5⟩
      rw [if_neg w2, if_neg w2]
      by_cases w3 : w = 3
      · rw [if_pos w3, if_pos w3, lastStamp_ok e2, bind_e]; exact ⟨m', rfl, e3, offq_off e4, e5⟩
      · rw [if_neg w3, if_neg w3, countKind_ok e2, bind_e]; exact ⟨m', rfl, e3, offq_off e4, e5⟩
    · rw [if_neg c2, if_neg c2]; exact okX.same h
/-- numbers of a span -/
def numP (S : Sr) (f t : Int) : List Pt := (spanP S f t).filter (fun q => isN q.2)
/-- mine's numbers are kept, and the state stands -/
theorem keepN {K : Kn} {m : Mem} {B : Nat} {s : St} (hok : stOk s) (h : RX K m B s) {l : List Pt} (hp : ptR K m (B + 192) 11812 l) : ∃ m', F_X5_keepNumbers K m (B + 192) = some m' ∧ ptR K m' (B + 192) 11812 (l.filter (fun q => isN q.2)) ∧ RX K m' B s ∧ eqOn (offq B) m m' ∧ szm m' = szm m := by
  obtain ⟨m', e1, e2, e3, e4⟩ := keepNumbers_ok hp
  have hr := h.2.2.1
  have eq : eqOn (offq B) m m' := e3.mono (fun q hq => by unfold offq at hq; unfold off; omega)
  refine ⟨m', e1, e2, h.q hok eq ⟨hr.1.on e3 (by unfold off; omega), e2.s, hr.2.2.1.on e3 (by unfold off; omega), (e3.R (by unfold off; omega)).trans hr.2.2.2.1, (e3.R (by unfold off; omega)).trans hr.2.2.2.2.1, (e3.R (by unfold off; omega)).trans hr.2.2.2.2.2⟩, eq, e4⟩
def aAbove (s : St) (x f t : Int32) (v : Int64) : Int32 := match sl s x with
  | none => -2
  | some S => if f ≤ t then (if isN v = true then cntA (fun b => decide (ordA v < ordA b)) (numP S f.toInt t.toInt) else -1) else -2
theorem above_ok {K : Kn} {m : Mem} {B : Nat} {s : St} (hok : stOk s) (h : RX K m B s) (x f t : Int32) (v : Int64) : okX K m B (F_X8_above K m B x f t v) (aAbove s x f t v) s := by
  unfold F_X8_above f_X8_above aAbove
  rcases isNone_c h x with ⟨hs, hn⟩ | ⟨S, hs, hn⟩
  · rw [hn, hs, bind_e, if_neg (by decide)]; exact okX.same h
  · rw [hn, hs, bind_e, if_pos rfl]
    dsimp only
    by_cases c0 : f ≤ t
    · rw [if_pos c0, if_pos c0, isNumber_ok, bind_e]
      by_cases ct : isN v = true
      · rw [if_pos ct, if_pos ct, if_neg (by decide)]
        obtain ⟨m', e1, e2, e3, e4, e5⟩ := spn hok h hs f t
        obtain ⟨m2, k1, k2, k3, k4, k5⟩ := keepN hok e3 e2
        rw [e1, mine_o e3, bind_e, k1, bind_e, mine_o k3, bind_e, countAbove_ok k2, bind_e]
        exact ⟨m2, rfl, k3, offq_off (e4.trans k4), k5.trans e5⟩
      · rw [if_neg ct, if_neg ct, if_pos rfl]; exact okX.same h
    · rw [if_neg c0, if_neg c0]; exact okX.same h
def aWindow (s : St) (x w : Int32) : Int32 := match sl s x with
  | none => -2
  | some S => if w < 0 then -2 else if w ≤ (1 : Int32) then (match opA S.2.2.2 with
    | none => -1
    | some (_, c) => match c.2.2.2 with
      | none => -1
      | some q => if w = 0 then nI q.1 else nI q.2) else -2
theorem window_ok {K : Kn} {m : Mem} {B : Nat} {s : St} (hok : stOk s) (h : RX K m B s) (x w : Int32) : F_X8_window K m B x w = some (aWindow s x w) := by
  unfold F_X8_window f_X8_window aWindow
  rcases isNone_c h x with ⟨hs, hn⟩ | ⟨S, hs, hn⟩
  · rw [hn, hs, bind_e, if_neg (by decide)]
  · rw [hn, hs, bind_e, if_pos rfl]
    dsimp only
    by_cases c1 : w < 0
    · rw [if_pos c1, if_pos c1]
    rw [if_neg c1, if_neg c1]
    by_cases c2 : w ≤ (1 : Int32)
    · rw [if_pos c2, if_pos c2]
      obtain ⟨j, a, hj, rfl, hsj, hS, e1, e2, ⟨π, e3, e4⟩, e5⟩ := h.at hok hs
      rw [e1, bind_e, e2, bind_e, openBlock_ok e3 e4 hS.2.2.2.2.2.2.2.1, bind_e]
      rcases last_cases S.2.2.2 with hb | ⟨bl0, b, hb⟩
      · rw [hb]; rfl
      · have hlen : S.2.2.2.length = bl0.length + 1 := by rw [hb]; simp
        have hgl : S.2.2.2.getLast? = some b := by rw [hb, List.getLast?_concat]
        have hbm := (hS.2.2.2.2.2.2.2.2.1 b (by rw [hb]; simp)).1
        have h16 := hS.2.2.2.2.2.2.2.1
        rw [hgl]
        dsimp only
        by_cases hse : b.2.2.1 = true
        · rw [if_pos hse, caseO_n, hb, opA_t hse]
        · have hse' : b.2.2.1 = false := by cases hh : b.2.2.1 <;> simp_all
          rw [if_neg hse, caseO_v]
          obtain ⟨p, c, l, hr, ho⟩ := ok_open hbm hse'
          have hfa := rs_facts hbm hr
          have hco := e4.2.2.2.2.2.2 b p c l hgl hse' hr
          have hbk := e4.2.2.2.2.2.1 (S.2.2.2.length - 1) b (by rw [hlen, hb, Nat.add_sub_cancel]; exact get_last bl0 b)
          rw [gd_t hbk.2.1, ldO_n e3.2.2.2.1 e3.1.2.2.2.2.2.1]
          simp only [bind_e]
          rw [hb, opA_f hse' hr]
          dsimp only
          rcases co_win hco hfa.2.2.2.2.1 with ⟨g1, g2, g3⟩ | ⟨l', t', g1, g2, g3, g4, g5⟩
          · rw [g1, g2, if_pos rfl]
          · rw [g1, g2, g3, if_neg (fun z => by rw [fa_eq, nI_toInt (by omega)] at z; exact absurd z (by show ¬ ((l' : Int) = -1); omega))]
            dsimp only
            by_cases w0 : w = 0
            · rw [if_pos w0, if_pos w0]
            · rw [if_neg w0, if_neg w0]
    · rw [if_neg c2, if_neg c2]
