theorem gfold_skip {L : List Pt} {from_ to_ : Int} {s : Gs} : ∀ l : List Pt, (∀ q ∈ l, (q.1 : Int) < from_ ∨ to_ < (q.1 : Int)) → l.foldl (gstep L from_ to_) s = s
  | [], _ => rfl
  | x :: l, h => by
    rw [List.foldl_cons]
    have : gstep L from_ to_ s x = s := by unfold gstep; rw [if_pos (h x (by simp))]
    rw [this]
    exact gfold_skip l (fun q hq => h q (by simp [hq]))
theorem gfold_cap {L : List Pt} {from_ to_ : Int} : ∀ (l : List Pt) (s : Gs), s.1 ≤ L.length → (l.foldl (gstep L from_ to_) s).2.length + (L.length - (l.foldl (gstep L from_ to_) s).1) ≤ s.2.length + (L.length - s.1) + l.length ∧ (l.foldl (gstep L from_ to_) s).1 ≤ L.length
  | [], s, h => ⟨by simp, h⟩
  | x :: l, s, h => by
    have h1 := gstep_cap (from_ := from_) (to_ := to_) (x := x) h
    have h2 := gfold_cap (from_ := from_) (to_ := to_) l _ h1.2
    rw [List.foldl_cons, List.length_cons]
    exact ⟨by omega, h2.2⟩
/-- the rest of the late ones -/
theorem g69 {K : Kn} {a x n r : Nat} {L : List Pt} {x1 to_ : Int32} (hL : ∀ q ∈ L, q.1 ≤ 2000000000) (hX : gaX a x r) (hK4 : K (a + 2) = some (.inl 4)) : ∀ (f : Nat) (m : Mem) (s : Gs), L.length - s.1 < f → gaR K m a x n r L s → s.2.length + (L.length - s.1) ≤ n →
    ∃ m', f_X7_gather_69 K a x1 to_ r x f m (nI s.1) = some m' ∧ ptR K m' x n (gpush L (to_.toInt + 1) s).2 ∧ eqOn (off x 3) m m' ∧ szm m' = szm m
  | 0, _, _, h, _, _ => absurd h (Nat.not_lt_zero _)
  | f + 1, m, s, hf, hg, hn => by
    have unf : f_X7_gather_69 K a x1 to_ r x (f + 1) m (nI s.1) = f_X7_gather_69B K a x1 to_ r x (f_X7_gather_69 K a x1 to_ r x f) m (nI s.1) := rfl
    rw [unf]
    obtain ⟨y1, y2, y3, y4, y5, y6, y7, y8, y9, y10, y11⟩ := id hX
    obtain ⟨hr, h1, hl, ho, hs⟩ := hg
    obtain ⟨t1, t2, t3, t4, t5, t6, t7, t8, t9⟩ := id hl
    unfold f_X7_gather_69B
    simp only [ldO_n h1 hK4, bind_e, ldA_n t1 t4, ldA_n t2 t5]
    rw [t6]
    by_cases c : L.length ≤ s.1
    · rw [if_pos ((nI_leI (by omega) (by omega)).mpr c)]
      have e : gpush L (to_.toInt + 1) s = s := gpush_stop (fun q hq => by rw [List.getElem?_eq_none (by omega)] at hq; cases hq)
      rw [e]
      exact ⟨m, rfl, ho, eqOn.refl m, rfl⟩
    · rw [if_neg (fun z => c ((nI_leI (by omega) (by omega)).mp z))]
      obtain ⟨q, hq⟩ := get_some (l := L) (i := s.1) (by omega)
      have hq2 := hL q (List.mem_of_getElem? hq)
      obtain ⟨v1, v2⟩ := hl.at hq
      have cto : to_ < nI q.1 ↔ to_.toInt < (q.1 : Int) := by rw [fa_lt, nI_toInt (by omega)]
      rw [v1, bind_e, bind_e, v2]
      by_cases c2 : to_.toInt < (q.1 : Int)
      · rw [if_pos (cto.mpr c2)]
        have e : gpush L (to_.toInt + 1) s = s := gpush_stop (fun q' hq' => by rw [hq] at hq'; cases hq'; omega)
        rw [e]
        exact ⟨m, rfl, ho, eqOn.refl m, rfl⟩
      · rw [if_neg (fun z => c2 (cto.mp z)), bind_e]
        obtain ⟨m1, e1, e2, e3, e4⟩ := push_ok ho (by omega) q.1 q.2
        rw [e1, bind_e]
        simp only [bd_e]
        rw [nI_1]
        obtain ⟨m2, r1, r2, r3, r4⟩ := g69 (x1 := x1) (to_ := to_) hL hX hK4 f m1 (s.1 + 1, s.2 ++ [q]) (by dsimp only; omega) ⟨hr.on e3 y3, (e3.R y1).trans h1, hl.on e3 y2.1 y2.2.1 y2.2.2, e2, by dsimp only; omega⟩ (by simp; omega)
        rw [gpush_next hq (by omega)]
        exact ⟨m2, r1, r2, e3.trans r3, r4.trans e4⟩
/-- all of a series is off the reader and the row -/
def gaS (a x r : Nat) : Prop := insr a 38 (off x 3) ∧ insr a 38 (offr r) ∧ off x 3 r ∧ off x 3 (r + 1) ∧ offr r x ∧ offr r (x + 1) ∧ offr r (x + 2)
theorem gaS.x {a x r : Nat} (h : gaS a x r) : gaX a x r := by
  obtain ⟨h1, h2, h3, h4, h5, h6, h7⟩ := h
  exact ⟨h1 _ (by omega) (by omega), ⟨h1 _ (by omega) (by omega), h1 _ (by omega) (by omega), h1 _ (by omega) (by omega)⟩, h3, h4, h2 _ (by omega) (by omega), h2 _ (by omega) (by omega), h2 _ (by omega) (by omega), h2 _ (by omega) (by omega), h5, h6, h7⟩
theorem g19 {K : Kn} {a x n r : Nat} {π : Nat → Nat} {S : Sr} {from_ to_ : Int32} (hok : srOk S) (hS : gaS a x r) : ∀ (f : Nat) (m : Mem) (s : Gs) (i : Nat), i ≤ S.2.2.2.length → S.2.2.2.length - i < f → seS K m a π → seD K m a π S → gaR K m a x n r S.2.2.1 s → s.2.length + (S.2.2.1.length - s.1) + (blkP (S.2.2.2.drop i)).length ≤ n →
    ∃ m', f_X7_gather_19 K a from_ to_ r x f m (nI s.1) (nI i) = some m' ∧ ptR K m' x n (gpush S.2.2.1 (to_.toInt + 1) ((blkP (S.2.2.2.drop i)).foldl (gstep S.2.2.1 from_.toInt to_.toInt) s)).2 ∧ rdS K m' r ∧ eqOn (fun q => off x 3 q ∧ offr r q) m m' ∧ szm m' = szm m
  | 0, _, _, _, _, h, _, _, _, _ => absurd h (Nat.not_lt_zero _)
  | f + 1, m, s, i, hi, hf, hs, hd, hg, hn => by
    have unf : f_X7_gather_19 K a from_ to_ r x (f + 1) m (nI s.1) (nI i) = f_X7_gather_19B K a from_ to_ r x (f_X7_gather_19 K a from_ to_ r x f) m (nI s.1) (nI i) := rfl
    rw [unf]
    unfold f_X7_gather_19B f_X7_gather_63
    have hX := hS.x
    have hK4 : K (a + 2) = some (.inl 4) := hs.1.2.2.1
    have hlt : ∀ q ∈ S.2.2.1, q.1 ≤ 2000000000 := fun q hq => by
      have h1 := hok.2.2.2.2.2.2.1 q hq
      have h2 := hok.2.2.2.1
      omega
    have hl16 := hok.2.2.2.2.2.2.2.1
    by_cases c : i = S.2.2.2.length
    · subst c
      rw [if_pos (blk_end hd hok), List.drop_eq_nil_of_le (Nat.le_refl _)]
      rw [List.drop_eq_nil_of_le (Nat.le_refl _)] at hn
      obtain ⟨m1, e1, e2, e3, e4⟩ := g69 (x1 := from_) (to_ := to_) hlt hX hK4 FU m s (by rw [FU_e]; have := hok.2.2.2.2.1; omega) hg (by simp [blkP] at hn; exact hn)
      exact ⟨m1, e1, e2, hg.1.on e3 hX.2.2.1, e3.mono (fun _ z => z.1), e4⟩
    · obtain ⟨b, hb⟩ := get_some (l := S.2.2.2) (i := i) (by omega)
      obtain ⟨c1, e1, e2, e3, e4⟩ := blk_at hs hd hok hb
      have hπ := (hs.2.2.2.2.2.2.1 i (by omega)).1
      rw [if_neg c1]
      simp only [e1, e2, bind_e]
      rw [touches_ok e3 e4, bind_e]
      have hbl : blkP (S.2.2.2.drop i) = (ptsB b).map ptV ++ blkP (S.2.2.2.drop (i + 1)) := by rw [drop_get hb]; simp [blkP]
      rw [hbl] at hn ⊢
      rw [List.length_append, List.length_map] at hn
      rw [List.foldl_append]
      by_cases ct : touA b from_.toInt to_.toInt = true
      · rw [if_pos ct, if_neg (by decide)]
        have hsn : sndB b = true := by
          unfold touA at ct
          simp at ct; exact ct.1.1
        obtain ⟨m1, f1, f2, f3, f4⟩ := gatherBlock_ok (from_ := from_) (to_ := to_) hlt hX hK4 e4 hsn ⟨hS.1 _ (by omega) (by omega), hS.1 _ (by omega) (by omega)⟩ ⟨hS.2.1 _ (by omega) (by omega), hS.2.1 _ (by omega) (by omega)⟩ hg e3 (by omega)
        rw [f1, bind_e]
        simp only [bd_e]
        rw [nI_1]
        have hin : insr a 38 (fun q => off x 3 q ∧ offr r q) := fun q h1 h2 => ⟨hS.1 q h1 h2, hS.2.1 q h1 h2⟩
        have hcap := gfold_cap (from_ := from_.toInt) (to_ := to_.toInt) ((ptsB b).map ptV) s hg.2.2.2.2
        rw [List.length_map] at hcap
        obtain ⟨m2, r1, r2, r3, r4, r5⟩ := g19 (from_ := from_) (to_ := to_) hok hS f m1 _ (i + 1) (by omega) (by omega) (hs.on f3 hin) (hd.on hl16 hs f3 hin) f2 (by omega)
        exact ⟨m2, r1, r2, r3, f3.trans r4, r5.trans f4⟩
      · rw [if_neg ct, if_pos rfl]
        simp only [bd_e]
        rw [nI_1]
        have hskip : ((ptsB b).map ptV).foldl (gstep S.2.2.1 from_.toInt to_.toInt) s = s := by
          refine gfold_skip _ (fun q hq => ?_)
          have h1 := (ptsB_facts e4).2.1 q hq
          cases hsn : sndB b with
          | false =>
            have : ptsB b = [] := by
              unfold sndB at hsn
              unfold ptsB
              cases hr : rsB b with
              | inl e => rfl
              | inr r => rw [hr] at hsn; simp at hsn
            rw [this] at hq; simp at hq
          | true =>
            unfold touA at ct
            rw [hsn] at ct
            simp at ct
            by_cases cc : (b.2.2.2.1 : Int) ≤ to_.toInt
            · have := ct cc; left; omega
            · right; omega
        rw [hskip]
        obtain ⟨m2, r1, r2, r3, r4, r5⟩ := g19 (from_ := from_) (to_ := to_) hok hS f m s (i + 1) (by omega) (by omega) hs hd hg (by omega)
        exact ⟨m2, r1, r2, r3, r4, r5⟩
/-- the points of a span of a series -/
def spanP (S : Sr) (from_ to_ : Int) : List Pt := (allP S).filter (fun q => decide (from_ ≤ (q.1 : Int) ∧ (q.1 : Int) ≤ to_))
theorem gather_ok {K : Kn} {m : Mem} {a x r : Nat} {S : Sr} (h : seR K m a S) (hok : srOk S) (hS : gaS a x r) (hr : rdS K m r) (hx : ptS K m x 11812) (from_ to_ : Int32) :
    ∃ m', F_X7_gather K m a from_ to_ r x = some m' ∧ ptR K m' x 11812 (spanP S from_.toInt to_.toInt) ∧ rdS K m' r ∧ eqOn (fun q => off x 3 q ∧ offr r q) m m' ∧ szm m' = szm m := by
  obtain ⟨π, hs, hd⟩ := h
  have hX := hS.x
  have hl16 := hok.2.2.2.2.2.2.2.1
  have e0 : eqOn (off x 3) m (sI m x 2 0) := eqOn_sI (fun z => (off3 z).1 rfl)
  have hs1 := hs.on e0 hS.1
  have hd1 := hd.on hl16 hs e0 hS.1
  have hlt : ∀ q ∈ S.2.2.1, q.1 ≤ 2000000000 := fun q hq => by
    have h1 := hok.2.2.2.2.2.2.1 q hq
    have h2 := hok.2.2.2.1
    omega
  unfold F_X7_gather f_X7_gather
  simp only [bd_e]
  rw [ldO_n (b := a + 2) hs1.2.2.1 hs1.1.2.2.1, bind_e]
  have hff := firstFrom_ok hd1.2.2.2.2.1 hlt (t := from_.toInt) (Int32.le_toInt from_) (Int32.toInt_lt from_)
  rw [iZ_of] at hff
  rw [hff, bind_e]
  have hb := (blkP_facts (fun b hb => (hok.2.2.2.2.2.2.2.2.1 b hb).1) hok.2.2.2.2.2.2.2.2.2).2.2
  have h5 := hok.2.2.2.2.1
  obtain ⟨m1, e1, e2, e3, e4, e5⟩ := g19 (n := 11812) (from_ := from_) (to_ := to_) hok hS FU (sI m x 2 0) (ff from_.toInt S.2.2.1, []) 0 (Nat.zero_le _) (by rw [FU_e]; omega) hs1 hd1 ⟨hr.on e0 hX.2.2.1, hs1.2.2.1, hd1.2.2.2.2.1, hx.nil, ff_le _ _⟩ (by rw [List.drop_zero]; simp; omega)
  refine ⟨m1, e1, ?_, e3, (e0.mono (fun _ z => z.1)).trans e4, e5⟩
  have := gth_all hok from_.toInt to_.toInt
  unfold gthA at this
  rw [List.drop_zero, this] at e2
  exact e2
