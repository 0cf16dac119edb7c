/-! ===== calls of the class: merge, repack, thin, cuts, rounds, rounded, best ===== -/
theorem or_zero {x y : Int32} : x ||| y = 0 ↔ x = 0 ∧ y = 0 := by
  constructor
  · intro h
    have h1 : ∀ i, bt x i = false ∧ bt y i = false := fun i => by
      have := congrArg (fun z => bt z i) h
      simp only [b_or, b_0, Bool.or_eq_false_iff] at this
      exact this
    exact ⟨b_ext (fun i _ => by rw [(h1 i).1, b_0]), b_ext (fun i _ => by rw [(h1 i).2, b_0])⟩
  · rintro ⟨rfl, rfl⟩; rfl
def sndL (bl : List Bk) : Bool := bl.all sndB
theorem brk_aux : ∀ (bl : List Bk) (x : Int32) (i : Nat), i + bl.length ≤ 16 → (foldI (fun (x : Int32) i (b : Bk) => if sndB b = true then x else x ||| ((1 : Int32) <<< (nI i &&& 31))) x i bl = 0 ↔ x = 0 ∧ sndL bl = true)
  | [], x, i, _ => by simp [foldI, sndL]
  | b :: bl, x, i, h => by
    have hl : i + 1 + bl.length ≤ 16 := by simp at h; omega
    show foldI _ (if sndB b = true then x else x ||| ((1 : Int32) <<< (nI i &&& 31))) (i + 1) bl = 0 ↔ _
    rw [brk_aux bl _ (i + 1) hl]
    have e : sndL (b :: bl) = (sndB b && sndL bl) := by simp [sndL]
    rw [e]
    cases hb : sndB b with
    | true => simp
    | false =>
      have hsh : (1 : Int32) <<< (nI i &&& 31) ≠ 0 := by
        rw [show (1 : Int32) = nI 1 from rfl, pk_shlN (nI i &&& 31) i (s_l _ (by omega)) (by rw [Nat.one_mul]; exact Nat.pow_lt_pow_right (by omega) (by omega)), Nat.one_mul]
        have h1 : 2 ^ i ≤ 2 ^ 15 := Nat.pow_le_pow_right (by omega) (by omega)
        have h2 : 0 < 2 ^ i := Nat.two_pow_pos i
        exact nI_ne0 h2 (by omega)
      simp only [Bool.false_and, Bool.false_eq_true, if_false, and_false, iff_false]
      intro hz
      exact hsh (or_zero.mp hz.1).2
theorem brk_zero {S : Sr} (hS : srOk S) : brkA S.2.2.2 = 0 ↔ sndL S.2.2.2 = true := by
  have := brk_aux S.2.2.2 0 0 (by have := hS.2.2.2.2.2.2.2.1; omega)
  unfold brkA
  rw [this]; simp
/-- mine holds another row; the state stands -/
theorem RX.mine {K : Kn} {m m' : Mem} {B : Nat} {s : St} (hok : stOk s) (h : RX K m B s) {l : List Pt} (e : eqOn (off (B + 192) 3) m m') (hp : ptR K m' (B + 192) 11812 l) : RX K m' B s ∧ eqOn (offq B) m m' := by
  have hr := h.2.2.1
  have eq : eqOn (offq B) m m' := e.mono (fun q hq => by unfold offq at hq; unfold off; omega)
  exact ⟨h.q hok eq ⟨hr.1.on e (by unfold off; omega), hp.s, hr.2.2.1.on e (by unfold off; omega), (e.R (by unfold off; omega)).trans hr.2.2.2.1, (e.R (by unfold off; omega)).trans hr.2.2.2.2.1, (e.R (by unfold off; omega)).trans hr.2.2.2.2.2⟩, eq⟩
/-- what packing anew answers: by the row's own answer, if it fits -/
def nPack (s : St) (x : Int32) (room : Nat) (l : List Pt) (f : Sr → Int32) : Int32 × St := match packA room l with
  | none => (-4, s)
  | some S' => (f S', upS s x.toNatClampNeg S')
theorem nPack_st {s : St} (hok : stOk s) {x : Int32} {room : Nat} {l : List Pt} {f : Sr → Int32} (hr1 : 24 ≤ room) (hr2 : room ≤ 200) (hsrt : srt l) (hs : ∀ q ∈ l, q.1 ≤ 2000000000) : stOk (nPack s x room l f).2 := by
  unfold nPack
  cases hp : packA room l with
  | none => exact hok
  | some S' => exact upS_ok hok (packL_ok (srOk_new hr1 hr2) hsrt hs (fun q _ => by show (-1 : Int) < q.1; omega) hp).1
theorem packOp {K : Kn} {m : Mem} {B j r : Nat} {s : St} {l : List Pt} (hok : stOk s) (h : RX K m B s) (hj : j < 4) (hr1 : 24 ≤ r) (hr2 : r ≤ 200) (hsrt : srt l) (hs : ∀ q ∈ l, q.1 ≤ 2000000000) (hp : ptR K m (B + 192) 11812 l) : okX K m B (F_X8_packMine K m B (nI j) (nI r)) (nPack s (nI j) r l (fun S' => nI S'.2.2.2.length)).1 (nPack s (nI j) r l (fun S' => nI S'.2.2.2.length)).2 := by
  obtain ⟨m', e1, e2, e3, e4⟩ := packMine_ok hok h hj hr1 hr2 hsrt hs hp
  refine ⟨m', ?_, ?_, e3, e4⟩
  · rw [e1]; unfold nPack; cases packA r l <;> rfl
  · unfold nPack
    rw [(slot_c hj).2]
    cases hpk : packA r l <;> rw [hpk] at e2 <;> exact e2
def nMerge (s : St) (x : Int32) : Int32 × St := match sl s x with
  | none => (-2, s)
  | some S => if sndL S.2.2.2 = true then nPack s x S.1 (allP S) (fun S' => nI S'.2.2.2.length) else (-6, s)
theorem room4 {K : Kn} {m : Mem} {B : Nat} {s : St} (hok : stOk s) (h : RX K m B s) {x : Int32} {S : Sr} (hs : sl s x = some S) : ∃ a, ldA K m B 0 3 = some (B + 1) ∧ alO K m (B + 1) x 6 = some a ∧ gI m a 4 = nI S.1 := by
  obtain ⟨j, a, hj, rfl, hsj, hS, e1, e2, ⟨π, e3, e3'⟩, e4, e5⟩ := h.at2 hok hs
  exact ⟨a, e1, e2, e3'.2.1⟩
theorem merge_ok {K : Kn} {m : Mem} {B : Nat} {s : St} (hok : stOk s) (h : RX K m B s) (x : Int32) : okX K m B (F_X8_merge K m B x) (nMerge s x).1 (nMerge s x).2 := by
  unfold F_X8_merge f_X8_merge nMerge
  rcases isNone_c h x with ⟨hs, hn⟩ | ⟨S, hs, hn⟩
  · rw [hn, hs, bind_e, if_neg (by decide)]; exact okX.same h
  · rw [hn, hs, bind_e, if_pos rfl]
    obtain ⟨j, a, hj, rfl, hsj, hS, e1, e2, ⟨π, e3, e3'⟩, e4, e5⟩ := h.at2 hok hs
    rw [e1, bind_e, e2, bind_e, broken_ok e3 e3' hS, bind_e]
    dsimp only
    by_cases cb : sndL S.2.2.2 = true
    · rw [if_pos ((brk_zero hS).mpr cb), if_pos cb]
      obtain ⟨m', g1, g2, g3, g4, g5⟩ := gathered_ok hok h hs
      obtain ⟨a', r1, r2, r3⟩ := room4 hok g3 hs
      rw [g1, bind_e, gd_t g2.2.2.1, r1, bind_e, r2, bind_e, r3]
      obtain ⟨m2, p1, p2, p3, p4⟩ := packOp hok g3 hj hS.1 hS.2.1 (allP_spec hS).1 (allP_le hS) g2
      rw [p1, bind_e]
      exact ⟨m2, rfl, p2, (offq_off g4).trans p3, p4.trans g5⟩
    · rw [if_neg (fun z => cb ((brk_zero hS).mp z)), if_neg cb]; exact okX.same h
def nRepack (s : St) (x r : Int32) : Int32 × St := match sl s x with
  | none => (-2, s)
  | some S => if rmm r = true then (if sndL S.2.2.2 = true then nPack s x r.toNatClampNeg (allP S) (fun S' => nI S'.2.2.2.length) else (-6, s)) else (-2, s)
theorem repack_ok {K : Kn} {m : Mem} {B : Nat} {s : St} (hok : stOk s) (h : RX K m B s) (x r : Int32) : okX K m B (F_X8_repack K m B x r) (nRepack s x r).1 (nRepack s x r).2 := by
  unfold F_X8_repack f_X8_repack nRepack
  rcases isNone_c h x with ⟨hs, hn⟩ | ⟨S, hs, hn⟩
  · rw [hn, hs, bind_e, if_neg (by decide)]; exact okX.same h
  · rw [hn, hs, bind_e, if_pos rfl, isRoom_ok, bind_e]
    dsimp only
    by_cases cr : rmm r = true
    · rw [if_pos cr, if_neg (by decide), if_pos cr]
      obtain ⟨rr, hr1, hr2, rfl, hrc⟩ := rmm_nI cr
      obtain ⟨j, a, hj, rfl, hsj, hS, e1, e2, ⟨π, e3, e3'⟩, e4, e5⟩ := h.at2 hok hs
      rw [e1, bind_e, e2, bind_e, broken_ok e3 e3' hS, bind_e, hrc]
      by_cases cb : sndL S.2.2.2 = true
      · rw [if_pos ((brk_zero hS).mpr cb), if_pos cb]
        obtain ⟨m', g1, g2, g3, g4, g5⟩ := gathered_ok hok h hs
        rw [g1, bind_e, gd_t g2.2.2.1]
        obtain ⟨m2, p1, p2, p3, p4⟩ := packOp hok g3 hj hr1 hr2 (allP_spec hS).1 (allP_le hS) g2
        rw [p1, bind_e]
        exact ⟨m2, rfl, p2, (offq_off g4).trans p3, p4.trans g5⟩
      · rw [if_neg (fun z => cb ((brk_zero hS).mp z)), if_neg cb]; exact okX.same h
    · rw [if_neg cr, if_neg cr, if_pos rfl]; exact okX.same h
theorem thinF_spec (step : Nat) : ∀ (l acc : List Pt), srt (acc ++ l) → srt (l.foldl (thinF step) acc) ∧ (∀ q ∈ l.foldl (thinF step) acc, q ∈ acc ∨ q ∈ l) ∧ (l.foldl (thinF step) acc).length ≤ acc.length + l.length
  | [], acc, h => ⟨by simpa using h, fun q hq => Or.inl hq, by simp⟩
  | x :: l, acc, h => by
    rw [List.foldl_cons]
    have h1 : thinF step acc x = acc ∨ thinF step acc x = acc ++ [x] := by
      unfold thinF
      split
      · exact Or.inr rfl
      · split
        · exact Or.inl rfl
        · exact Or.inr rfl
    rcases h1 with h1 | h1
    · rw [h1]
      obtain ⟨r1, r2, r3⟩ := thinF_spec step l acc (List.Pairwise.sublist (List.Sublist.append (List.Sublist.refl acc) (List.sublist_cons_self x l)) h)
      refine ⟨r1, fun q hq => ?_, by rw [List.length_cons]; omega⟩
      rcases r2 q hq with z | z
      · exact Or.inl z
      · exact Or.inr (by simp [z])
    · rw [h1]
      obtain ⟨r1, r2, r3⟩ := thinF_spec step l (acc ++ [x]) (by rw [List.append_assoc]; exact h)
      refine ⟨r1, fun q hq => ?_, by rw [List.length_append] at r3; rw [List.length_cons]; simp at r3; omega⟩
      rcases r2 q hq with z | z
      · rcases List.mem_append.mp z with z | z
        · exact Or.inl z
        · exact Or.inr (by rw [List.mem_singleton.mp z]; simp)
      · exact Or.inr (by simp [z])
theorem thinA_spec {l : List Pt} (h : srt l) (step : Nat) : srt (thinA step l) ∧ (∀ q ∈ thinA step l, q ∈ l) ∧ (thinA step l).length ≤ l.length := by
  obtain ⟨r1, r2, r3⟩ := thinF_spec step l [] (by simpa using h)
  exact ⟨r1, fun q hq => (r2 q hq).resolve_left (by simp), by have r3 : (thinA step l).length ≤ 0 + l.length := r3; omega⟩
def nThin (s : St) (x w : Int32) : Int32 × St := match sl s x with
  | none => (-2, s)
  | some S => if w < (1 : Int32) then (-2, s) else if w ≤ (1000000 : Int32) then (if sndL S.2.2.2 = true then nPack s x S.1 (thinA w.toNatClampNeg (allP S)) (fun _ => nI (allP S).length - nI (thinA w.toNatClampNeg (allP S)).length) else (-6, s)) else (-2, s)
/-- packing anew where another number is told -/
theorem packTold {K : Kn} {m : Mem} {B j r : Nat} {s : St} {l : List Pt} {z : Int32} (hok : stOk s) (h : RX K m B s) (hj : j < 4) (hr1 : 24 ≤ r) (hr2 : r ≤ 200) (hsrt : srt l) (hs : ∀ q ∈ l, q.1 ≤ 2000000000) (hp : ptR K m (B + 192) 11812 l) : okX K m B ((F_X8_packMine K m B (nI j) (nI r)).bind fun q15 => if 0 ≤ q15.1 then some (z, q15.2) else some ((-4 : Int32), q15.2)) (nPack s (nI j) r l (fun _ => z)).1 (nPack s (nI j) r l (fun _ => z)).2 := by
  obtain ⟨m', e1, e2, e3, e4⟩ := packMine_ok hok h hj hr1 hr2 hsrt hs hp
  rw [e1, bind_e]
  dsimp only
  unfold nPack
  rw [(slot_c hj).2]
  cases hpk : packA r l with
  | none =>
    rw [hpk] at e2
    rw [if_neg (by decide)]
    exact ⟨m', rfl, e2, e3, e4⟩
  | some S' =>
    rw [hpk] at e2
    have hl := (packL_ok (srOk_new hr1 hr2) hsrt hs (fun q _ => by show (-1 : Int) < q.1; omega) hpk).1.2.2.2.2.2.2.2.1
    rw [if_pos (nI_pos' (by omega))]
    exact ⟨m', rfl, e2, e3, e4⟩
theorem thin_st {s : St} (hok : stOk s) (x w : Int32) : stOk (nThin s x w).2 := by
  unfold nThin
  cases hs : sl s x with
  | none => exact hok
  | some S =>
    have hS := sl_ok hok hs
    dsimp only
    split
    · exact hok
    split
    · split
      · obtain ⟨t1, t2, -⟩ := thinA_spec (allP_spec hS).1 w.toNatClampNeg
        exact nPack_st hok hS.1 hS.2.1 t1 (fun q hq => allP_le hS q (t2 q hq))
      · exact hok
    · exact hok
theorem merge_st {s : St} (hok : stOk s) (x : Int32) : stOk (nMerge s x).2 := by
  unfold nMerge
  cases hs : sl s x with
  | none => exact hok
  | some S =>
    have hS := sl_ok hok hs
    dsimp only
    split
    · exact nPack_st hok hS.1 hS.2.1 (allP_spec hS).1 (allP_le hS)
    · exact hok
theorem repack_st {s : St} (hok : stOk s) (x r : Int32) : stOk (nRepack s x r).2 := by
  unfold nRepack
  cases hs : sl s x with
  | none => exact hok
  | some S =>
    have hS := sl_ok hok hs
    dsimp only
    split
    · rename_i cr
      obtain ⟨rr, hr1, hr2, rfl, hrc⟩ := rmm_nI cr
      rw [hrc]
      split
      · exact nPack_st hok hr1 hr2 (allP_spec hS).1 (allP_le hS)
      · exact hok
    · exact hok
theorem thin_ok {K : Kn} {m : Mem} {B : Nat} {s : St} (hok : stOk s) (h : RX K m B s) (x w : Int32) : okX K m B (F_X8_thin K m B x w) (nThin s x w).1 (nThin s x w).2 := by
  unfold F_X8_thin f_X8_thin nThin
  rcases isNone_c h x with ⟨hs, hn⟩ | ⟨S, hs, hn⟩
  · rw [hn, hs, bind_e, if_neg (by decide)]; exact okX.same h
  · rw [hn, hs, bind_e, if_pos rfl]
    dsimp only
    by_cases c1 : w < (1 : Int32)
    · rw [if_pos c1, if_pos c1]; exact okX.same h
    rw [if_neg c1, if_neg c1]
    by_cases c2 : w ≤ (1000000 : Int32)
    · rw [if_pos c2, if_pos c2]
      have c0 : ¬ w < 0 := fun z => c1 (by rw [fa_lt] at z ⊢; have z : w.toInt < 0 := z; show w.toInt < 1; omega)
      obtain ⟨st, hst, rfl, hstc⟩ := idx_nI c0
      have hst1 : 1 ≤ st := by
        rcases Nat.lt_or_ge st 1 with z | z
        · exact absurd ((nI_ltI (b := 1) (by omega) (by omega)).mpr z) c1
        · exact z
      have hst2 : st ≤ 1000000 := (nI_leI (b := 1000000) (by omega) (by omega)).mp c2
      obtain ⟨j, a, hj, rfl, hsj, hS, e1, e2, ⟨π, e3, e3'⟩, e4, e5⟩ := h.at2 hok hs
      rw [e1, bind_e, e2, bind_e, broken_ok e3 e3' hS, bind_e, hstc]
      by_cases cb : sndL S.2.2.2 = true
      · rw [if_pos ((brk_zero hS).mpr cb), if_pos cb]
        obtain ⟨m', g1, g2, g3, g4, g5⟩ := gathered_ok hok h hs
        obtain ⟨m1, d1, d2, d3, d4⟩ := dropAlike_ok g2 (allP_le hS) hst1 hst2
        obtain ⟨k1, k2⟩ := g3.mine hok d3 d2
        obtain ⟨a', r1, r2, r3⟩ := room4 hok k1 hs
        obtain ⟨t1, t2, t3⟩ := thinA_spec (allP_spec hS).1 st
        rw [g1, bind_e, gd_t g2.2.2.1, d1, bind_e]
        simp only [bd_e]
        rw [r1, bind_e, r2, bind_e, r3]
        obtain ⟨m2, p1, p2, p3, p4⟩ := packTold (z := nI (allP S).length - nI (thinA st (allP S)).length) hok k1 hj hS.1 hS.2.1 t1 (fun q hq => allP_le hS q (t2 q hq)) d2
        rw [p1]
        exact ⟨m2, rfl, p2, (offq_off (g4.trans k2)).trans p3, p4.trans (d4.trans g5)⟩
      · rw [if_neg (fun z => cb ((brk_zero hS).mp z)), if_neg cb]; exact okX.same h
    · rw [if_neg c2, if_neg c2]; exact okX.same h
def nCuts (s : St) (x f t : Int32) : Int32 × St := match sl s x with
  | none => (-2, s)
  | some S => if f ≤ t then (if sndL S.2.2.2 = true then nPack s x S.1 ((allP S).filter (outS f.toInt t.toInt)) (fun _ => nI (allP S).length - nI ((allP S).filter (outS f.toInt t.toInt)).length) else (-6, s)) else (-2, s)
theorem cuts_ok {K : Kn} {m : Mem} {B : Nat} {s : St} (hok : stOk s) (h : RX K m B s) (x f t : Int32) : okX K m B (F_X8_cuts K m B x f t) (nCuts s x f t).1 (nCuts s x f t).2 := by
  unfold F_X8_cuts f_X8_cuts nCuts
  rcases isNone_c h x with ⟨hs, hn⟩ | ⟨S, hs, hn⟩
  · rw [hn, hs, bind_e, if_neg (by decide)]; exact okX.same h
  · rw [hn, hs, bind_e, if_pos rfl]
    dsimp only
    by_cases c1 : f ≤ t
    · rw [if_pos c1, if_pos c1]
      obtain ⟨j, a, hj, rfl, hsj, hS, e1, e2, ⟨π, e3, e3'⟩, e4, e5⟩ := h.at2 hok hs
      rw [e1, bind_e, e2, bind_e, broken_ok e3 e3' hS, bind_e]
      by_cases cb : sndL S.2.2.2 = true
      · rw [if_pos ((brk_zero hS).mpr cb), if_pos cb]
        obtain ⟨m', g1, g2, g3, g4, g5⟩ := gathered_ok hok h hs
        obtain ⟨m1, d1, d2, d3, d4⟩ := dropSpan_ok g2 (allP_le hS) f t
        obtain ⟨k1, k2⟩ := g3.mine hok d3 d2
        obtain ⟨a', r1, r2, r3⟩ := room4 hok k1 hs
        rw [g1, bind_e, gd_t g2.2.2.1, d1, bind_e]
        simp only [bd_e]
        rw [r1, bind_e, r2, bind_e, r3]
        obtain ⟨m2, p1, p2, p3, p4⟩ := packTold (z := nI (allP S).length - nI ((allP S).filter (outS f.toInt t.toInt)).length) hok k1 hj hS.1 hS.2.1 (List.Pairwise.sublist List.filter_sublist (allP_spec hS).1) (fun q hq => allP_le hS q (List.mem_filter.mp hq).1) d2
        rw [p1]
        exact ⟨m2, rfl, p2, (offq_off (g4.trans k2)).trans p3, p4.trans (d4.trans g5)⟩
      · rw [if_neg (fun z => cb ((brk_zero hS).mp z)), if_neg cb]; exact okX.same h
    · rw [if_neg c1, if_neg c1]; exact okX.same h
theorem clr_srt {l : List Pt} (h : srt l) (w : Nat) : srt (l.map (clrP w)) := List.Pairwise.map _ (fun _ _ z => z) h
theorem clr_le {l : List Pt} (h : ∀ q ∈ l, q.1 ≤ 2000000000) (w : Nat) : ∀ q ∈ l.map (clrP w), q.1 ≤ 2000000000 := fun q hq => by
  obtain ⟨x, hx, rfl⟩ := List.mem_map.mp hq
  exact h x hx
def nRounds (s : St) (x w : Int32) : Int32 × St := match sl s x with
  | none => (-2, s)
  | some S => if w < (1 : Int32) then (-2, s) else if w ≤ (52 : Int32) then (if sndL S.2.2.2 = true then nPack s x S.1 ((allP S).map (clrP w.toNatClampNeg)) (fun _ => clrN w.toNatClampNeg (allP S)) else (-6, s)) else (-2, s)
theorem rounds_ok {K : Kn} {m : Mem} {B : Nat} {s : St} (hok : stOk s) (h : RX K m B s) (x w : Int32) : okX K m B (F_X8_rounds K m B x w) (nRounds s x w).1 (nRounds s x w).2 := by
  unfold F_X8_rounds f_X8_rounds nRounds
  rcases isNone_c h x with ⟨hs, hn⟩ | ⟨S, hs, hn⟩
  · rw [hn, hs, bind_e, if_neg (by decide)]; exact okX.same h
  · rw [hn, hs, bind_e, if_pos rfl]
    dsimp only
    by_cases c1 : w < (1 : Int32)
    · rw [if_pos c1, if_pos c1]; exact okX.same h
    rw [if_neg c1, if_neg c1]
    by_cases c2 : w ≤ (52 : Int32)
    · rw [if_pos c2, if_pos c2]
      have c0 : ¬ w < 0 := fun z => c1 (by rw [fa_lt] at z ⊢; have z : w.toInt < 0 := z; show w.toInt < 1; omega)
      obtain ⟨st, hst, rfl, hstc⟩ := idx_nI c0
      obtain ⟨j, a, hj, rfl, hsj, hS, e1, e2, ⟨π, e3, e3'⟩, e4, e5⟩ := h.at2 hok hs
      rw [e1, bind_e, e2, bind_e, broken_ok e3 e3' hS, bind_e, hstc]
      by_cases cb : sndL S.2.2.2 = true
      · rw [if_pos ((brk_zero hS).mpr cb), if_pos cb]
        obtain ⟨m', g1, g2, g3, g4, g5⟩ := gathered_ok hok h hs
        obtain ⟨m1, d1, d2, d3, d4⟩ := clearLowest_ok (w := st) g2
        obtain ⟨k1, k2⟩ := g3.mine hok d3 d2
        obtain ⟨a', r1, r2, r3⟩ := room4 hok k1 hs
        rw [g1, bind_e, gd_t g2.2.2.1, d1, bind_e]
        simp only [bd_e]
        rw [r1, bind_e, r2, bind_e, r3]
        obtain ⟨m2, p1, p2, p3, p4⟩ := packTold (z := clrN st (allP S)) hok k1 hj hS.1 hS.2.1 (clr_srt (allP_spec hS).1 st) (clr_le (allP_le hS) st) d2
        rw [p1]
        exact ⟨m2, rfl, p2, (offq_off (g4.trans k2)).trans p3, p4.trans (d4.trans g5)⟩
      · rw [if_neg (fun z => cb ((brk_zero hS).mp z)), if_neg cb]; exact okX.same h
    · rw [if_neg c2, if_neg c2]; exact okX.same h
theorem cuts_st {s : St} (hok : stOk s) (x f t : Int32) : stOk (nCuts s x f t).2 := by
  unfold nCuts
  cases hs : sl s x with
  | none => exact hok
  | some S =>
    have hS := sl_ok hok hs
    dsimp only
    split
    · split
      · exact nPack_st hok hS.1 hS.2.1 (List.Pairwise.sublist List.filter_sublist (allP_spec hS).1) (fun q hq => allP_le hS q (List.mem_filter.mp hq).1)
      · exact hok
    · exact hok
theorem rounds_st {s : St} (hok : stOk s) (x w : Int32) : stOk (nRounds s x w).2 := by
  unfold nRounds
  cases hs : sl s x with
  | none => exact hok
  | some S =>
    have hS := sl_ok hok hs
    dsimp only
    split
    · exact hok
    split
    · split
      · exact nPack_st hok hS.1 hS.2.1 (clr_srt (allP_spec hS).1 _) (clr_le (allP_le hS) _)
      · exact hok
    · exact hok
def byA (room : Nat) (l : List Pt) : Int32 := match packA room l with
  | none => -4
  | some S' => nI (sumB S'.2.2.2)
theorem RX.scal {K : Kn} {m m' : Mem} {B : Nat} {s : St} (hok : stOk s) (h : RX K m B s) (e : eqOn (offc (B + 201)) m m') : RX K m' B s ∧ eqOn (offq B) m m' := by
  have hr := h.2.2.1
  have oc : ∀ q, q ≠ B + 201 → offc (B + 201) q := fun q hq => hq
  have eq : eqOn (offq B) m m' := e.mono (fun q hq => by unfold offq at hq; show q ≠ B + 201; omega)
  exact ⟨h.q hok eq ⟨hr.1.on e (oc _ (by omega)), hr.2.1.on e (oc _ (by omega)), hr.2.2.1.on e (oc _ (by omega)), (e.R (oc _ (by omega))).trans hr.2.2.2.1, (e.R (oc _ (by omega))).trans hr.2.2.2.2.1, (e.R (oc _ (by omega))).trans hr.2.2.2.2.2⟩, eq⟩
def aRounded (s : St) (x w : Int32) : Int32 := match sl s x with
  | none => -2
  | some S => if w < (1 : Int32) then -2 else if w ≤ (52 : Int32) then (if sndL S.2.2.2 = true then byA S.1 ((allP S).map (clrP w.toNatClampNeg)) else -6) else -2
theorem rounded_ok {K : Kn} {m : Mem} {B : Nat} {s : St} (hok : stOk s) (h : RX K m B s) (x w : Int32) : okX K m B (F_X8_rounded K m B x w) (aRounded s x w) s := by
  unfold F_X8_rounded f_X8_rounded aRounded
  rcases isNone_c h x with ⟨hs, hn⟩ | ⟨S, hs, hn⟩
  · rw [hn, hs, bind_e, if_neg (by decide)]; exact okX.same h
  · rw [hn, hs, bind_e, if_pos rfl]
    dsimp only
    by_cases c1 : w < (1 : Int32)
    · rw [if_pos c1, if_pos c1]; exact okX.same h
    rw [if_neg c1, if_neg c1]
    by_cases c2 : w ≤ (52 : Int32)
    · rw [if_pos c2, if_pos c2]
      have c0 : ¬ w < 0 := fun z => c1 (by rw [fa_lt] at z ⊢; have z : w.toInt < 0 := z; show w.toInt < 1; omega)
      obtain ⟨st, hst, rfl, hstc⟩ := idx_nI c0
      obtain ⟨j, a, hj, rfl, hsj, hS, e1, e2, ⟨π, e3, e3'⟩, e4, e5⟩ := h.at2 hok hs
      rw [e1, bind_e, e2, bind_e, broken_ok e3 e3' hS, bind_e, hstc]
      by_cases cb : sndL S.2.2.2 = true
      · rw [if_pos ((brk_zero hS).mpr cb), if_pos cb]
        obtain ⟨m', g1, g2, g3, g4, g5⟩ := gathered_ok hok h hs
        obtain ⟨m1, d1, d2, d3, d4⟩ := clearLowest_ok (w := st) g2
        obtain ⟨k1, k2⟩ := g3.mine hok d3 d2
        obtain ⟨a', r1, r2, r3⟩ := room4 hok k1 hs
        rw [g1, bind_e, gd_t g2.2.2.1, d1, bind_e, ldO_n k1.2.1.2.2.2.2.2.1 k1.1.2.2.2.2.1, bind_e, mine_o k1, bind_e, r1, bind_e, r2, bind_e, r3]
        obtain ⟨m2, p1, p2, p3⟩ := bytesBy_ok (sc := B + 201) d2 (clr_le (allP_le hS) st) (clr_srt (allP_spec hS).1 st) (by unfold off; omega) hS.1 hS.2.1
        obtain ⟨q1, q2⟩ := k1.scal hok p2
        rw [p1, bind_e]
        exact ⟨m2, rfl, q1, offq_off ((g4.trans k2).trans q2), p3.trans (d4.trans g5)⟩
      · rw [if_neg (fun z => cb ((brk_zero hS).mp z)), if_neg cb]; exact okX.same h
    · rw [if_neg c2, if_neg c2]; exact okX.same h
/-- the best room: chosen, fewest; rooms from r on, so many -/
def bestF (l : List Pt) : Nat → Nat → Int32 × Int32 → Int32 × Int32
  | 0, _, x => x
  | n + 1, r, x => bestF l n (r + 1) (if byA r l < 0 then x else if x.1 = -1 then (nI r, byA r l) else if x.2 ≤ byA r l then x else (nI r, byA r l))
theorem best_loop {K : Kn} {B : Nat} {s : St} {l : List Pt} {x1 : Int32} (hok : stOk s) (hsrt : srt l) (hs : ∀ q ∈ l, q.1 ≤ 2000000000) : ∀ (n f r : Nat) (m : Mem) (y z : Int32), n < f → r + n = 201 → 24 ≤ r → RX K m B s → ptR K m (B + 192) 11812 l → ∃ m', f_X8_best_40 K B x1 f m y z (nI r) = some ((bestF l n r (y, z)).1, m') ∧ RX K m' B s ∧ eqOn (offq B) m m' ∧ szm m' = szm m
  | n, 0, _, _, _, _, h, _, _, _, _ => absurd h (Nat.not_lt_zero _)
  | 0, f + 1, r, m, y, z, _, hr, _, h, _ => by
    show ∃ m', f_X8_best_40B K B x1 (f_X8_best_40 K B x1 f) m y z (nI r) = _ ∧ _
    unfold f_X8_best_40B
    rw [if_pos (show (200 : Int32) < nI r from (nI_ltI (a := 200) (by omega) (by omega)).mpr (by omega))]
    exact ⟨m, rfl, h, eqOn.refl m, rfl⟩
  | n + 1, f + 1, r, m, y, z, hn, hr, hr2, h, hp => by
    show ∃ m', f_X8_best_40B K B x1 (f_X8_best_40 K B x1 f) m y z (nI r) = _ ∧ _
    unfold f_X8_best_40B f_X8_best_79 f_X8_best_85
    rw [if_neg (show ¬ (200 : Int32) < nI r from fun w => by rw [show (200 : Int32) = nI 200 from rfl, nI_ltI (by omega) (by omega)] at w; omega), ldO_n h.2.1.2.2.2.2.2.1 h.1.2.2.2.2.1, bind_e, mine_o h, bind_e]
    obtain ⟨m1, p1, p2, p3⟩ := bytesBy_ok (sc := B + 201) (room := r) hp hs hsrt (by unfold off; omega) hr2 (by omega)
    obtain ⟨q1, q2⟩ := h.scal hok p2
    have p1' : F_X1_bytesBy K m (B + 201) (B + 192) (nI r) = some (byA r l, m1) := p1
    rw [p1', bind_e]
    simp only [bd_e, nI_1]
    have hp1 := hp.on p2 (show B + 192 ≠ B + 201 by omega) (show B + 192 + 1 ≠ B + 201 by omega) (show B + 192 + 2 ≠ B + 201 by omega)
    have go : ∀ y' z', ∃ m', f_X8_best_40 K B x1 f m1 y' z' (nI (r + 1)) = some ((bestF l n (r + 1) (y', z')).1, m') ∧ RX K m' B s ∧ eqOn (offq B) m m' ∧ szm m' = szm m := by
      intro y' z'
      obtain ⟨m2, r1, r2, r3, r4⟩ := best_loop (x1 := x1) hok hsrt hs n f (r + 1) m1 y' z' (by omega) (by omega) (by omega) q1 hp1
      exact ⟨m2, r1, r2, q2.trans r3, r4.trans p3⟩
    unfold bestF
    by_cases b1 : byA r l < 0
    · rw [if_pos b1, if_pos b1]; exact go y z
    rw [if_neg b1, if_neg b1]
    dsimp only
    by_cases b2 : y = -1
    · rw [if_pos b2, if_pos b2]; exact go _ _
    rw [if_neg b2, if_neg b2]
    by_cases b3 : z ≤ byA r l
    · rw [if_pos b3, if_pos b3]; exact go y z
    · rw [if_neg b3, if_neg b3]; exact go _ _
def aBest (s : St) (x : Int32) : Int32 := match sl s x with
  | none => -2
  | some S => if sndL S.2.2.2 = true then (bestF (allP S) 177 24 (-1, 0)).1 else -6
theorem best_ok {K : Kn} {m : Mem} {B : Nat} {s : St} (hok : stOk s) (h : RX K m B s) (x : Int32) : okX K m B (F_X8_best K m B x) (aBest s x) s := by
  unfold F_X8_best f_X8_best aBest
  rcases isNone_c h x with ⟨hs, hn⟩ | ⟨S, hs, hn⟩
  · rw [hn, hs, bind_e, if_neg (by decide)]; exact okX.same h
  · rw [hn, hs, bind_e, if_pos rfl]
    obtain ⟨j, a, hj, rfl, hsj, hS, e1, e2, ⟨π, e3, e3'⟩, e4, e5⟩ := h.at2 hok hs
    rw [e1, bind_e, e2, bind_e, broken_ok e3 e3' hS, bind_e]
    dsimp only
    by_cases cb : sndL S.2.2.2 = true
    · rw [if_pos ((brk_zero hS).mpr cb), if_pos cb]
      obtain ⟨m', g1, g2, g3, g4, g5⟩ := gathered_ok hok h hs
      rw [g1, bind_e, gd_t g2.2.2.1]
      obtain ⟨m2, p1, p2, p3, p4⟩ := best_loop (x1 := nI j) hok (allP_spec hS).1 (allP_le hS) 177 FU 24 m' (-1) 0 (by rw [FU_e]; omega) (by omega) (by omega) g3 g2
      exact ⟨m2, p1, p2, offq_off (g4.trans p3), p4.trans g5⟩
    · rw [if_neg (fun z => cb ((brk_zero hS).mp z)), if_neg cb]; exact okX.same h
