/-! ===== points gathered by the class ===== -/
theorem gpush_next {L : List Pt} {T : Int} {s : Gs} {q : Pt} (h : L[s.1]? = some q) (hq : (q.1 : Int) < T) : gpush L T s = gpush L T (s.1 + 1, s.2 ++ [q]) := by
  unfold gpush
  dsimp only
  rw [drop_get h, ff, if_pos hq, List.take_succ_cons, List.append_assoc]
  congr 1
  omega
theorem gpush_stop {L : List Pt} {T : Int} {s : Gs} (h : ∀ q, L[s.1]? = some q → T ≤ (q.1 : Int)) : gpush L T s = s := by
  unfold gpush
  have : ff T (L.drop s.1) = 0 := by
    cases hd : L.drop s.1 with
    | nil => rfl
    | cons q l =>
      have hq : L[s.1]? = some q := by
        have : (L.drop s.1)[0]? = some q := by rw [hd]; rfl
        rw [List.getElem?_drop] at this; exact this
      have := h q hq
      unfold ff
      rw [if_neg (by omega)]
  rw [this, List.take_zero, List.append_nil, Nat.add_zero]
/-- the inner loop: late ones ahead of a stamp go out -/
theorem g66 {K : Kn} {a b r x n T : Nat} {L : List Pt} {x2 x3 x4 xi : Int32} {kk : Mem → Int32 → Int32 → Option (Int32 × Mem)} (hL : ∀ q ∈ L, q.1 ≤ 2000000000) (hT : T ≤ 2000000000) (hxa : off x 3 a) (hxl : off x 3 (a + 2) ∧ off x 3 (a + 2 + 1) ∧ off x 3 (a + 2 + 2)) (hK4 : K (a + 2) = some (.inl 4)) : ∀ (f : Nat) (m : Mem) (s : Gs), L.length - s.1 < f → s.1 ≤ L.length → gR m a 1 = some (a + 2) → ptR K m (a + 2) 20 L → ptR K m x n s.2 → s.2.length + (L.length - s.1) ≤ n →
    ∃ m', f_X7_gatherBlock_66 K a b x2 x3 x4 r x kk f m (nI s.1) xi (nI T) = f_X7_gatherBlock_124 K a b x2 x3 x4 r x kk m' (nI (gpush L T s).1) xi (nI T) ∧ ptR K m' x n (gpush L T s).2 ∧ eqOn (off x 3) m m' ∧ szm m' = szm m
  | 0, _, _, h, _, _, _, _, _ => absurd h (Nat.not_lt_zero _)
  | f + 1, m, s, hf, hs, h1, hl, ho, hn => by
    have unf : f_X7_gatherBlock_66 K a b x2 x3 x4 r x kk (f + 1) m (nI s.1) xi (nI T) = f_X7_gatherBlock_66B K a b x2 x3 x4 r x kk (f_X7_gatherBlock_66 K a b x2 x3 x4 r x kk f) m (nI s.1) xi (nI T) := rfl
    rw [unf]
    obtain ⟨t1, t2, t3, t4, t5, t6, t7, t8, t9⟩ := id hl
    unfold f_X7_gatherBlock_66B
    simp only [ldO_n h1 hK4, bind_e, ldA_n t1 t4, ldA_n t2 t5]
    rw [t6]
    by_cases c : L.length ≤ s.1
    · rw [if_pos ((nI_leI (by omega) (by omega)).mpr c)]
      have e : gpush L T s = s := gpush_stop (fun q hq => by rw [List.getElem?_eq_none (by omega)] at hq; cases hq)
      rw [e]
      exact ⟨m, rfl, ho, eqOn.refl m, rfl⟩
    · rw [if_neg (fun z => c ((nI_leI (by omega) (by omega)).mp z))]
      obtain ⟨q, hq⟩ := get_some (l := L) (i := s.1) (by omega)
      have hq2 := hL q (List.mem_of_getElem? hq)
      obtain ⟨v1, v2⟩ := hl.at hq
      rw [v1, bind_e, bind_e, v2]
      by_cases c2 : T ≤ q.1
      · rw [if_pos ((nI_leI (by omega) (by omega)).mpr c2)]
        have e : gpush L T s = s := gpush_stop (fun q' hq' => by rw [hq] at hq'; cases hq'; omega)
        rw [e]
        exact ⟨m, rfl, ho, eqOn.refl m, rfl⟩
      · rw [if_neg (fun z => c2 ((nI_leI (by omega) (by omega)).mp z)), bind_e]
        obtain ⟨m1, e1, e2, e3, e4⟩ := push_ok ho (by omega) q.1 q.2
        rw [e1, bind_e]
        simp only [bd_e]
        rw [nI_1]
        obtain ⟨m2, r1, r2, r3, r4⟩ := g66 (x2 := x2) (x3 := x3) (x4 := x4) (xi := xi) (kk := kk) hL hT hxa hxl hK4 f m1 (s.1 + 1, s.2 ++ [q]) (by dsimp only; omega) (by dsimp only; omega) ((e3.R hxa).trans h1) (hl.on e3 hxl.1 hxl.2.1 hxl.2.2) e2 (by simp; omega)
        rw [gpush_next hq (by omega)]
        exact ⟨m2, r1, r2, e3.trans r3, r4.trans e4⟩
theorem gpush_cap {L : List Pt} {T : Int} {s : Gs} (hs : s.1 ≤ L.length) : (gpush L T s).2.length + (L.length - (gpush L T s).1) = s.2.length + (L.length - s.1) ∧ (gpush L T s).1 ≤ L.length := by
  have := ff_le T (L.drop s.1)
  rw [List.length_drop] at this
  unfold gpush
  dsimp only
  rw [List.length_append, List.length_take, List.length_drop]
  omega
/-- a point goes by -/
theorem g38 {K : Kn} {a b r x n T i : Nat} {v : Int64} {L : List Pt} {from_ to_ : Int32} {x4 : Int32} {kk : Mem → Int32 → Int32 → Option (Int32 × Mem)} (hL : ∀ q ∈ L, q.1 ≤ 2000000000) (hT : T ≤ 2000000000) (hxa : off x 3 a) (hxl : off x 3 (a + 2) ∧ off x 3 (a + 2 + 1) ∧ off x 3 (a + 2 + 2)) (hK4 : K (a + 2) = some (.inl 4)) (hxr : off x 3 r ∧ off x 3 (r + 1)) {m : Mem} {s : Gs} (hr : rdS K m r) (hc1 : gI m (r + 1) 0 = nI T) (hc2 : gJ m (r + 1) 2 = v) (hs : s.1 ≤ L.length) (h1 : gR m a 1 = some (a + 2)) (hl : ptR K m (a + 2) 20 L) (ho : ptR K m x n s.2) (hn : s.2.length + (L.length - s.1) + 1 ≤ n) :
    (to_.toInt < (T : Int) → f_X7_gatherBlock_38 K a b from_ to_ x4 r x kk m (nI s.1) (nI i) = some (nI s.1, m)) ∧
    (¬ to_.toInt < (T : Int) → ∃ m', f_X7_gatherBlock_38 K a b from_ to_ x4 r x kk m (nI s.1) (nI i) = kk m' (nI (gstep L from_.toInt to_.toInt s (T, v)).1) (nI (i + 1)) ∧ ptR K m' x n (gstep L from_.toInt to_.toInt s (T, v)).2 ∧ eqOn (off x 3) m m' ∧ szm m' = szm m) := by
  have cto : nI T ≤ to_ ↔ ¬ to_.toInt < (T : Int) := by rw [fa_le, nI_toInt (by omega)]; omega
  have cfr : from_ ≤ nI T ↔ ¬ (T : Int) < from_.toInt := by rw [fa_le, nI_toInt (by omega)]; omega
  unfold f_X7_gatherBlock_38 f_X7_gatherBlock_166 f_X7_gatherBlock_172
  rw [ldO_n hr.1 hr.2.2, bind_e, hc1]
  simp only [bd_e]
  refine ⟨fun z => ?_, fun z => ?_⟩
  · rw [if_neg (fun w => cto.mp w z)]
  · rw [if_pos (cto.mpr z)]
    by_cases c : (T : Int) < from_.toInt
    · rw [if_neg (fun w => cfr.mp w c), nI_1]
      have e : gstep L from_.toInt to_.toInt s (T, v) = s := by unfold gstep; rw [if_pos (Or.inl c)]
      rw [e]
      exact ⟨m, rfl, ho, eqOn.refl m, rfl⟩
    · rw [if_pos (cfr.mpr c)]
      obtain ⟨m1, e1, e2, e3, e4⟩ := g66 (x2 := from_) (x3 := to_) (x4 := x4) (xi := nI i) (kk := kk) (b := b) (r := r) hL hT hxa hxl hK4 FU m s (by rw [FU_e]; have := hl.2.2.2.2.2.2.1; omega) hs h1 hl ho (by omega)
      rw [e1]
      have hcap := gpush_cap (T := T) hs
      have hl1 := hl.on e3 hxl.1 hxl.2.1 hxl.2.2
      obtain ⟨t1, t2, t3, t4, t5, t6, t7, t8, t9⟩ := id hl1
      have hu : gstep L from_.toInt to_.toInt s (T, v) = if (L[(gpush L T s).1]?).map Prod.fst = some T then gpush L T s else ((gpush L T s).1, (gpush L T s).2 ++ [(T, v)]) := by
        unfold gstep
        rw [if_neg (by dsimp only; omega)]
      rw [hu]
      unfold f_X7_gatherBlock_124 f_X7_gatherBlock_151 f_X7_gatherBlock_166
      have h11 : gR m1 a 1 = some (a + 2) := (e3.R hxa).trans h1
      simp only [ldO_n h11 hK4, bind_e, ldA_n t1 t4]
      have hr1 : rdS K m1 r := hr.on e3 hxr.1
      have hpush : ∃ m', ((F_X5_push K m1 x (nI T) (gJ m1 (r + 1) 2)).bind fun q2 => bd (nI i + (1 : Int32)) fun z1 => kk q2 (nI (gpush L T s).1) z1) = kk m' (nI (gpush L T s).1) (nI (i + 1)) ∧ ptR K m' x n ((gpush L T s).2 ++ [(T, v)]) ∧ eqOn (off x 3) m m' ∧ szm m' = szm m := by
        rw [e3.J hxr.2, hc2]
        obtain ⟨m2, f1, f2, f3, f4⟩ := push_ok e2 (by omega) T v
        rw [f1, bind_e]
        simp only [bd_e]
        rw [nI_1]
        exact ⟨m2, rfl, f2, e3.trans f3, f4.trans e4⟩
      rw [t6]
      by_cases c2 : L.length ≤ (gpush L T s).1
      · rw [if_pos ((nI_leI (by omega) (by omega)).mpr c2), ldO_n hr1.1 hr1.2.2, bind_e, List.getElem?_eq_none (by omega), if_neg (by simp)]
        exact hpush
      · rw [if_neg (fun z => c2 ((nI_leI (by omega) (by omega)).mp z))]
        obtain ⟨q, hq⟩ := get_some (l := L) (i := (gpush L T s).1) (by omega)
        have hq2 := hL q (List.mem_of_getElem? hq)
        rw [(hl1.at hq).1, bind_e, hq]
        by_cases c3 : q.1 = T
        · rw [if_pos (by rw [c3]), if_pos (by simp [c3])]
          simp only [bd_e]
          rw [nI_1]
          exact ⟨m1, rfl, e2, e3, e4⟩
        · rw [if_neg (fun z => c3 ((nI_eq (by omega) (by omega)).mp z)), ldO_n hr1.1 hr1.2.2, bind_e, if_neg (by simp [c3])]
          exact hpush
theorem gstep_cap {L : List Pt} {from_ to_ : Int} {s : Gs} {x : Pt} (hs : s.1 ≤ L.length) : (gstep L from_ to_ s x).2.length + (L.length - (gstep L from_ to_ s x).1) ≤ s.2.length + (L.length - s.1) + 1 ∧ (gstep L from_ to_ s x).1 ≤ L.length := by
  have h := gpush_cap (T := x.1) hs
  unfold gstep
  split
  · omega
  split
  · omega
  · simp; omega
theorem gfold_out {L : List Pt} {from_ to_ : Int} {s : Gs} : ∀ l : List Pt, (∀ q ∈ l, to_ < (q.1 : Int)) → l.foldl (gstep L from_ to_) s = s
  | [], _ => rfl
  | x :: l, h => by
    rw [List.foldl_cons]
    have : gstep L from_ to_ s x = s := by unfold gstep; rw [if_pos (Or.inr (h x (by simp)))]
    rw [this]
    exact gfold_out l (fun q hq => h q (by simp [hq]))
/-- what gathering needs of the memory -/
def gaR (K : Kn) (m : Mem) (a x n r : Nat) (L : List Pt) (s : Gs) : Prop := rdS K m r ∧ gR m a 1 = some (a + 2) ∧ ptR K m (a + 2) 20 L ∧ ptR K m x n s.2 ∧ s.1 ≤ L.length
def gaX (a x r : Nat) : Prop := off x 3 a ∧ (off x 3 (a + 2) ∧ off x 3 (a + 2 + 1) ∧ off x 3 (a + 2 + 2)) ∧ off x 3 r ∧ off x 3 (r + 1) ∧ offr r a ∧ offr r (a + 2) ∧ offr r (a + 2 + 1) ∧ offr r (a + 2 + 2) ∧ offr r x ∧ offr r (x + 1) ∧ offr r (x + 2)
theorem gb_loop {K : Kn} {a β r x n : Nat} {b : Bk} {L : List Pt} {from_ to_ : Int32} {x4 : Int32} (hL : ∀ q ∈ L, q.1 ≤ 2000000000) (hX : gaX a x r) (hK4 : K (a + 2) = some (.inl 4)) (hok : bkOk b) (hsn : sndB b = true) (hbx : off x 3 β ∧ off x 3 (β + 1)) (hbr : offr r β ∧ offr r (β + 1)) : ∀ (f : Nat) (m : Mem) (s : Gs) (i : Nat), 1 ≤ i → i ≤ (ptsB b).length → (ptsB b).length - i < f → gaR K m a x n r L s → bkR K m β b → rdAt K m r (β + 1) b (i - 1) → s.2.length + (L.length - s.1) + ((ptsB b).length - i) ≤ n →
    ∃ m', f_X7_gatherBlock_13 K a β from_ to_ x4 r x f m (nI s.1) (nI i) = some (nI ((((ptsB b).map ptV).drop i).foldl (gstep L from_.toInt to_.toInt) s).1, m') ∧ gaR K m' a x n r L ((((ptsB b).map ptV).drop i).foldl (gstep L from_.toInt to_.toInt) s) ∧ eqOn (fun q => off x 3 q ∧ offr r q) m m' ∧ szm m' = szm m
  | 0, _, _, _, _, _, h, _, _, _, _ => absurd h (Nat.not_lt_zero _)
  | f + 1, m, s, i, hi1, hi, hf, hg, hb, ha, hn => by
    have unf : f_X7_gatherBlock_13 K a β from_ to_ x4 r x (f + 1) m (nI s.1) (nI i) = f_X7_gatherBlock_13B K a β from_ to_ x4 r x (f_X7_gatherBlock_13 K a β from_ to_ x4 r x f) m (nI s.1) (nI i) := rfl
    rw [unf]
    obtain ⟨x1, x2, x3, x4', x5, x6, x7, x8, x9, x10, x11⟩ := hX
    obtain ⟨g1, g2, g3, g4, g5⟩ := hg
    have h737 := (ptsB_facts hok).2.2
    unfold f_X7_gatherBlock_13B
    rw [hb.pts hsn]
    by_cases c : (ptsB b).length ≤ i
    · rw [if_pos ((nI_leI (by omega) (by omega)).mpr c), List.drop_eq_nil_of_le (by rw [List.length_map]; omega)]
      exact ⟨m, rfl, ⟨g1, g2, g3, g4, g5⟩, eqOn.refl m, rfl⟩
    · rw [if_neg (fun z => c ((nI_leI (by omega) (by omega)).mp z)), if_neg (nI_nle (by omega) (by omega))]
      obtain ⟨y, hy⟩ := get_some (l := ptsB b) (i := i) (by omega)
      have hy' : (ptsB b)[i - 1 + 1]? = some y := by rw [show i - 1 + 1 = i by omega]; exact hy
      obtain ⟨m1, e1, e2, e3, e4, e5, e6, -, -, -⟩ := read_at ha g1 hok hsn hy'
      rw [e1, bind_e]
      dsimp only
      rw [if_pos rfl]
      have hm : ((ptsB b).map ptV)[i]? = some (ptV y) := by rw [List.getElem?_map, hy]; rfl
      rw [drop_get hm, List.foldl_cons]
      have hyT : y.1 ≤ 2000000000 := by
        have := (ptsB_facts hok).2.1 (ptV y) (List.mem_of_getElem? hm)
        have h7 := hok.2.2.2.2.2.2
        have : y.1 ≤ b.2.2.2.2 := this.2
        omega
      have E1 := e4.1
      obtain ⟨A, B⟩ := g38 (b := β) (i := i) (x4 := x4) (from_ := from_) (to_ := to_) (kk := f_X7_gatherBlock_13 K a β from_ to_ x4 r x f) hL hyT x1 x2 hK4 ⟨x3, x4'⟩ e3 e5 e6 g5 ((E1.R x5).trans g2) (g3.on E1 x6 x7 x8) (g4.on E1 x9 x10 x11) (by omega)
      by_cases c2 : to_.toInt < (y.1 : Int)
      · rw [A c2]
        have hst : gstep L from_.toInt to_.toInt s (ptV y) = s := by unfold gstep; exact if_pos (Or.inr c2)
        have hout := gfold_out (L := L) (from_ := from_.toInt) (to_ := to_.toInt) (s := s) (((ptsB b).map ptV).drop (i + 1)) (fun q hq => by
          have hs := srt_drop (ptsB_facts hok).1 i
          rw [drop_get hm] at hs
          have := (List.pairwise_cons.mp hs).1 q hq
          have : y.1 < q.1 := this
          omega)
        rw [hst, hout]
        exact ⟨m1, rfl, ⟨e3, (E1.R x5).trans g2, g3.on E1 x6 x7 x8, g4.on E1 x9 x10 x11, g5⟩, E1.mono (fun _ z => z.2), e4.2.1⟩
      · obtain ⟨m2, f1, f2, f3, f4⟩ := B c2
        rw [f1]
        have hcap := gstep_cap (from_ := from_.toInt) (to_ := to_.toInt) (x := ptV y) g5
        have E2 : eqOn (fun q => off x 3 q ∧ offr r q) m m2 := (E1.mono (fun _ z => z.2)).trans (f3.mono (fun _ z => z.1))
        obtain ⟨m3, r1, r2, r3, r4⟩ := gb_loop (x4 := x4) (from_ := from_) (to_ := to_) hL ⟨x1, x2, x3, x4', x5, x6, x7, x8, x9, x10, x11⟩ hK4 hok hsn hbx hbr f m2 (gstep L from_.toInt to_.toInt s (ptV y)) (i + 1) (by omega) (by omega) (by omega) ⟨e3.on f3 x3, (f3.R x1).trans ((E1.R x5).trans g2), (g3.on E1 x6 x7 x8).on f3 x2.1 x2.2.1 x2.2.2, f2, hcap.2⟩ (hb.on E2 ⟨hbx.1, hbr.1⟩ ⟨hbx.2, hbr.2⟩) (by
          rw [show i + 1 - 1 = i - 1 + 1 by omega]
          exact e2.on f3 x3 x4' hbx.2) (by omega)
        exact ⟨m3, r1, r2, E2.trans r3, r4.trans (f4.trans e4.2.1)⟩
theorem gatherBlock_ok {K : Kn} {a β r x n : Nat} {b : Bk} {L : List Pt} {from_ to_ : Int32} (hL : ∀ q ∈ L, q.1 ≤ 2000000000) (hX : gaX a x r) (hK4 : K (a + 2) = some (.inl 4)) (hok : bkOk b) (hsn : sndB b = true) (hbx : off x 3 β ∧ off x 3 (β + 1)) (hbr : offr r β ∧ offr r (β + 1)) {m : Mem} {s : Gs} (hg : gaR K m a x n r L s) (hb : bkR K m β b) (hn : s.2.length + (L.length - s.1) + (ptsB b).length ≤ n) :
    ∃ m', F_X7_gatherBlock K m a β from_ to_ (nI s.1) r x = some (nI (((ptsB b).map ptV).foldl (gstep L from_.toInt to_.toInt) s).1, m') ∧ gaR K m' a x n r L (((ptsB b).map ptV).foldl (gstep L from_.toInt to_.toInt) s) ∧ eqOn (fun q => off x 3 q ∧ offr r q) m m' ∧ szm m' = szm m := by
  obtain ⟨x1, x2, x3, x4, x5, x6, x7, x8, x9, x10, x11⟩ := id hX
  obtain ⟨g1, g2, g3, g4, g5⟩ := hg
  obtain ⟨m1, o1, o2, o3, o4, o5, -, y, hy, o6, o7⟩ := open_bk g1 hb hok hsn hbr.1 hbr.2
  unfold F_X7_gatherBlock f_X7_gatherBlock
  rw [o1, bind_e]
  have h737 := (ptsB_facts hok).2.2
  have hlen := (List.getElem?_eq_some_iff.mp hy).1
  have unf : f_X7_gatherBlock_13 K a β from_ to_ (nI s.1) r x FU m1 (nI s.1) 0 = f_X7_gatherBlock_13B K a β from_ to_ (nI s.1) r x (f_X7_gatherBlock_13 K a β from_ to_ (nI s.1) r x 999999) m1 (nI s.1) 0 := rfl
  rw [unf]
  unfold f_X7_gatherBlock_13B
  have hb1 := hb.on o4 hbr.1 hbr.2
  rw [hb1.pts hsn, if_neg (nI_nle (by omega) (by omega)), if_pos (by decide)]
  have hm : ((ptsB b).map ptV)[0]? = some (ptV y) := by rw [List.getElem?_map, hy]; rfl
  have hdr := drop_get hm
  rw [List.drop_zero] at hdr
  rw [hdr, List.foldl_cons]
  have hyT : y.1 ≤ 2000000000 := by
    have := (ptsB_facts hok).2.1 (ptV y) (List.mem_of_getElem? hm)
    have h7 := hok.2.2.2.2.2.2
    have : y.1 ≤ b.2.2.2.2 := this.2
    omega
  obtain ⟨A, B⟩ := g38 (b := β) (i := 0) (x4 := nI s.1) (from_ := from_) (to_ := to_) (kk := f_X7_gatherBlock_13 K a β from_ to_ (nI s.1) r x 999999) hL hyT x1 x2 hK4 ⟨x3, x4⟩ o3 o6 o7 g5 ((o4.R x5).trans g2) (g3.on o4 x6 x7 x8) (g4.on o4 x9 x10 x11) (by omega)
  by_cases c2 : to_.toInt < (y.1 : Int)
  · have A' := A c2
    rw [show (nI 0 : Int32) = 0 from rfl] at A'
    rw [A']
    have hst : gstep L from_.toInt to_.toInt s (ptV y) = s := by unfold gstep; exact if_pos (Or.inr c2)
    have hout := gfold_out (L := L) (from_ := from_.toInt) (to_ := to_.toInt) (s := s) (((ptsB b).map ptV).drop (0 + 1)) (fun q hq => by
      have hs := (ptsB_facts hok).1
      rw [hdr] at hs
      have := (List.pairwise_cons.mp hs).1 q hq
      have : y.1 < q.1 := this
      omega)
    rw [hst, hout]
    exact ⟨m1, rfl, ⟨o3, (o4.R x5).trans g2, g3.on o4 x6 x7 x8, g4.on o4 x9 x10 x11, g5⟩, o4.mono (fun _ z => z.2), o5⟩
  · obtain ⟨m2, f1, f2, f3, f4⟩ := B c2
    rw [show (nI 0 : Int32) = 0 from rfl] at f1
    rw [f1]
    have hcap := gstep_cap (from_ := from_.toInt) (to_ := to_.toInt) (x := ptV y) g5
    have E2 : eqOn (fun q => off x 3 q ∧ offr r q) m m2 := (o4.mono (fun _ z => z.2)).trans (f3.mono (fun _ z => z.1))
    obtain ⟨m3, r1, r2, r3, r4⟩ := gb_loop (x4 := nI s.1) (from_ := from_) (to_ := to_) hL hX hK4 hok hsn hbx hbr 999999 m2 (gstep L from_.toInt to_.toInt s (ptV y)) (0 + 1) (by omega) (by omega) (by omega) ⟨o3.on f3 x3, (f3.R x1).trans ((o4.R x5).trans g2), (g3.on o4 x6 x7 x8).on f3 x2.1 x2.2.1 x2.2.2, f2, hcap.2⟩ (hb.on E2 ⟨hbx.1, hbr.1⟩ ⟨hbx.2, hbr.2⟩) (o2.on f3 x3 x4 hbx.2) (by omega)
    exact ⟨m3, r1, r2, E2.trans r3, r4.trans (f4.trans o5)⟩
