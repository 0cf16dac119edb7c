/-! ===== ways and costs of a block's points ===== -/
theorem scanM {α β γ : Type} (l : List α) (lo : Nat) (G : Nat → Mem → β → Nat → Option (γ × Mem)) (I : Mem → Nat → Prop) (Q : Mem → Mem → Prop) (hQ : ∀ m, Q m m) (hQt : ∀ m m1 m2, Q m m1 → Q m1 m2 → Q m m2) (st : β → Nat → α → β) (fin : β → γ) (hB : ∀ n m x i a, lo ≤ i → l[i]? = some a → I m i → ∃ m', G (n + 1) m x i = G n m' (st x i a) (i + 1) ∧ I m' (i + 1) ∧ Q m m') (hE : ∀ n m x i, l.length ≤ i → i ≤ l.length + lo → I m i → ∃ m', G (n + 1) m x i = some (fin x, m') ∧ Q m m') : ∀ n i m x, lo ≤ i → i ≤ l.length + lo → l.length - i < n → I m i → ∃ m', G n m x i = some (fin (foldI st x i (l.drop i)), m') ∧ Q m m'
  | 0, _, _, _, _, _, h, _ => absurd h (Nat.not_lt_zero _)
  | n + 1, i, m, x, hlo, hi, hn, hI => by
    by_cases c : l.length ≤ i
    · rw [List.drop_eq_nil_of_le c]
      exact hE n m x i c hi hI
    · obtain ⟨a, ha⟩ := get_some (l := l) (i := i) (by omega)
      obtain ⟨m1, e1, e2, e3⟩ := hB n m x i a hlo ha hI
      obtain ⟨m2, r1, r2⟩ := scanM l lo G I Q hQ hQt st fin hB hE n (i + 1) m1 (st x i a) (by omega) (by omega) (by omega) e2
      refine ⟨m2, ?_, hQt _ _ _ e3 r2⟩
      rw [e1, r1, drop_get ha]; rfl
def cwF (w : Int32) (x : Int32) (_ : Nat) (q : PtR) : Int32 := if w = nI q.2.2.2.1 ∨ w = nI q.2.2.2.2 then x + 1 else x
def cwA (w : Int32) (l : List PtR) : Int32 := foldI (cwF w) 0 1 (l.drop 1)
theorem countWay_ok {K : Kn} {m : Mem} {r a : Nat} {b : Bk} (hr : rdS K m r) (h : bkR K m a b) (hok : bkOk b) (hs : sndB b = true) (hra : offr r a) (hra1 : offr r (a + 1)) (w : Int32) : ∃ m', F_X6_countWay K m r a w = some (cwA w (ptsB b), m') ∧ rdS K m' r ∧ eqOn (offr r) m m' ∧ szm m' = szm m := by
  obtain ⟨m1, o1, o2, o3, o4, o5, -⟩ := open_bk hr h hok hs hra hra1
  have h737 := (ptsB_facts hok).2.2
  unfold F_X6_countWay f_X6_countWay
  rw [o1, bind_e]
  have := scanM (ptsB b) 1 (fun n m (x : Int32) i => f_X6_countWay_10 K r a w n m x (nI i)) (fun m i => rdAt K m r (a + 1) b (i - 1) ∧ rdS K m r ∧ bkR K m a b) (fun m m' => rdS K m r → (rdS K m' r ∧ eqOn (offr r) m m' ∧ szm m' = szm m)) (fun m h => ⟨h, eqOn.refl m, rfl⟩) (fun m m1 m2 h1 h2 h => ⟨(h2 (h1 h).1).1, (h1 h).2.1.trans (h2 (h1 h).1).2.1, (h2 (h1 h).1).2.2.trans (h1 h).2.2⟩) (cwF w) (fun x => x) ?_ ?_ FU 1 m1 (0 : Int32) (Nat.le_refl _) (by omega) (by rw [FU_e]; omega) ⟨o2, o3, h.on o4 hra hra1⟩
  · obtain ⟨m2, e1, e2⟩ := this
    obtain ⟨g1, g2, g3⟩ := e2 o3
    exact ⟨m2, e1, g1, o4.trans g2, g3.trans o5⟩
  · intro n m x i y hi hy ⟨i1, i2, i3⟩
    have hil := (List.getElem?_eq_some_iff.mp hy).1
    have hy' : (ptsB b)[i - 1 + 1]? = some y := by rw [show i - 1 + 1 = i by omega]; exact hy
    obtain ⟨m', e1, e2, e3, e4, -, -, -, e11, e12⟩ := read_at i1 i2 hok hs hy'
    show ∃ m', f_X6_countWay_10B K r a w (f_X6_countWay_10 K r a w n) m x (nI i) = _ ∧ _
    unfold f_X6_countWay_10B f_X6_countWay_42 f_X6_countWay_45
    rw [i3.pts hs, if_neg (nI_ge hil (by omega)), e1, bind_e]
    dsimp only
    rw [if_pos rfl, e11, e12]
    simp only [bd_e, nI_1]
    refine ⟨m', ?_, ⟨by rw [show i + 1 - 1 = i - 1 + 1 by omega]; exact e2, e3, i3.on e4.1 hra hra1⟩, fun _ => ⟨e3, e4.1, e4.2.1⟩⟩
    unfold cwF
    by_cases c1 : w = nI y.2.2.2.1
    · rw [if_pos c1, if_pos (Or.inl c1)]
    · rw [if_neg c1]
      by_cases c2 : w = nI y.2.2.2.2
      · rw [if_pos c2, if_pos (Or.inr c2)]
      · rw [if_neg c2, if_neg (fun z => z.elim c1 c2)]
  · intro n m x i hi hi2 ⟨i1, i2, i3⟩
    show ∃ m', f_X6_countWay_10B K r a w (f_X6_countWay_10 K r a w n) m x (nI i) = _ ∧ _
    unfold f_X6_countWay_10B f_X6_countWay_51
    rw [i3.pts hs, if_pos (nI_le hi (by omega))]
    exact ⟨m, rfl, fun h => ⟨h, eqOn.refl m, rfl⟩⟩
theorem rdN_costs {f : Nat → Nat} {L : Nat} {c0 : Cs} : ∀ (n : Nat) {p : Nat} {c : Cs} {l : List PtR}, rdN f L c0 n = .inr (p, c, l) → ∀ x ∈ l, x.2.2.1 ≤ L ∧ x.2.2.2.1 ≤ 9 ∧ x.2.2.2.2 ≤ 9
  | 0, p, c, l, h, x, hx => by
    cases h
    rw [List.mem_singleton.mp hx]
    exact ⟨Nat.zero_le _, Nat.le_refl 9, Nat.le_refl 9⟩
  | n + 1, p, c, l, h, x, hx => by
    unfold rdN at h
    cases hn : rdN f L c0 n with
    | inl e => rw [hn] at h; cases h
    | inr q =>
      obtain ⟨p1, c1, l1⟩ := q
      rw [hn] at h
      dsimp only at h
      split at h
      · rename_i hz
        cases h
        rcases List.mem_append.mp hx with hx | hx
        · exact rdN_costs n hn x hx
        · rw [List.mem_singleton.mp hx]
          have := (rdP_fault f L c1 p1 hz).2
          refine ⟨by dsimp only; omega, ?_, ?_⟩
          · have hk := kindR_le f p1
            unfold rdP
            dsimp only
            split
            · dsimp only; omega
            split
            · dsimp only; omega
            split
            · dsimp only; omega
            · dsimp only; omega
          · have hv : ∀ w q, (rdV f w q).1 ≤ 9 := by
              intro w q; unfold rdV; split
              · show 5 ≤ 9; decide
              split
              · show 6 ≤ 9; decide
              · show 7 ≤ 9; decide
            have hv := hv c1.2.2.2 (p1 + kwid (kindR f p1) + cwid (kindR f p1))
            unfold rdP
            dsimp only
            split
            · exact hv
            split
            · exact hv
            split
            · exact hv
            · exact hv
      · cases h
theorem pts_costs {b : Bk} (hok : bkOk b) : ∀ x ∈ ptsB b, x.2.2.1 ≤ 1480 ∧ x.2.2.2.1 ≤ 9 ∧ x.2.2.2.2 ≤ 9 := by
  intro x hx
  cases hs : sndB b with
  | false =>
    have : ptsB b = [] := by
      unfold sndB at hs
      unfold ptsB
      cases hr : rsB b with
      | inl e => rfl
      | inr r => rw [hr] at hs; simp at hs
    rw [this] at hx; simp at hx
  | true =>
    obtain ⟨p, c, hr⟩ := snd_rs hs
    obtain ⟨g1, g2, g3, -⟩ := rs_rd hok hr
    have := rdN_costs _ g1 x hx
    omega
/-- the dearest point: how many bits, its stamp -/
def deF (x : Nat × Int32) (_ : Nat) (q : PtR) : Nat × Int32 := if x.1 < q.2.2.1 then (q.2.2.1, nI q.1) else x
def deA (x : Nat × Int32) (l : List PtR) : Nat × Int32 := foldI deF x 1 (l.drop 1)
theorem deF_ind : ∀ (l : List PtR) (c i : Nat) (s0 s1 : Int32), c ≤ (foldI deF (c, s0) i l).1 ∧ (foldI deF (c, s0) i l).1 = (foldI deF (c, s1) i l).1 ∧ (c < (foldI deF (c, s0) i l).1 → (foldI deF (c, s0) i l).2 = (foldI deF (c, s1) i l).2) ∧ (¬ c < (foldI deF (c, s0) i l).1 → foldI deF (c, s0) i l = (c, s0))
  | [], c, i, s0, s1 => ⟨Nat.le_refl _, rfl, fun h => absurd h (Nat.lt_irrefl _), fun _ => rfl⟩
  | q :: l, c, i, s0, s1 => by
    show c ≤ (foldI deF (deF (c, s0) i q) (i + 1) l).1 ∧ (foldI deF (deF (c, s0) i q) (i + 1) l).1 = (foldI deF (deF (c, s1) i q) (i + 1) l).1 ∧ (c < (foldI deF (deF (c, s0) i q) (i + 1) l).1 → (foldI deF (deF (c, s0) i q) (i + 1) l).2 = (foldI deF (deF (c, s1) i q) (i + 1) l).2) ∧ (¬ c < (foldI deF (deF (c, s0) i q) (i + 1) l).1 → foldI deF (deF (c, s0) i q) (i + 1) l = (c, s0))
    unfold deF
    dsimp only
    by_cases h : c < q.2.2.1
    · rw [if_pos h, if_pos h]
      have := deF_ind l q.2.2.1 (i + 1) (nI q.1) (nI q.1)
      refine ⟨?_, rfl, fun _ => rfl, fun z => ?_⟩
      · have := this.1; unfold deF at this; omega
      · have := this.1; unfold deF at this; omega
    · rw [if_neg h, if_neg h]
      exact deF_ind l c (i + 1) s0 s1
theorem findDearest_ok {K : Kn} {m : Mem} {r a : Nat} {b : Bk} (hr : rdS K m r) (h : bkR K m a b) (hok : bkOk b) (hs : sndB b = true) (hra : offr r a) (hra1 : offr r (a + 1)) {c : Nat} (hc : c ≤ 1480) (s0 : Int32) : ∃ m', F_X6_findDearest K m r a (nI c) = some (if c < (deA (c, s0) (ptsB b)).1 then 1 else 0, m') ∧ (c < (deA (c, s0) (ptsB b)).1 → gI m' r 5 = nI (deA (c, s0) (ptsB b)).1 ∧ gI m' r 6 = (deA (c, s0) (ptsB b)).2) ∧ rdS K m' r ∧ eqOn (offr r) m m' ∧ szm m' = szm m := by
  have h737 := (ptsB_facts hok).2.2
  have hcosts := pts_costs hok
  have e0 : eqOn (offr r) m (sI m r 5 (nI c)) := eqOn_sI (fun z => z.1 rfl)
  obtain ⟨m1, o1, o2, o3, o4, o5, o6, -⟩ := open_bk (m := sI m r 5 (nI c)) hr (h.on e0 hra hra1) hok hs hra hra1
  unfold F_X6_findDearest f_X6_findDearest
  simp only [bd_e]
  rw [o1, bind_e]
  have key : ∀ (n i : Nat) (m : Mem) (x : Nat × Int32), 1 ≤ i → i ≤ (ptsB b).length + 1 → (ptsB b).length - i < n → rdAt K m r (a + 1) b (i - 1) → rdS K m r → bkR K m a b → gI m r 5 = nI x.1 → gI m r 6 = x.2 → x.1 ≤ 1480 → ∃ m', f_X6_findDearest_12 K r a (nI c) n m (nI i) = f_X6_findDearest_69 K r a (nI c) m' ∧ gI m' r 5 = nI (foldI deF x i ((ptsB b).drop i)).1 ∧ gI m' r 6 = (foldI deF x i ((ptsB b).drop i)).2 ∧ (foldI deF x i ((ptsB b).drop i)).1 ≤ 1480 ∧ rdS K m' r ∧ eqOn (offr r) m m' ∧ szm m' = szm m := by
    intro n
    induction n with
    | zero => intro i m x _ _ h; exact absurd h (Nat.not_lt_zero _)
    | succ n ih =>
      intro i m x hi hi2 hn i1 i2 i3 g5 g6 hx
      show ∃ m', f_X6_findDearest_12B K r a (nI c) (f_X6_findDearest_12 K r a (nI c) n) m (nI i) = _ ∧ _
      unfold f_X6_findDearest_12B f_X6_findDearest_63
      rw [i3.pts hs]
      by_cases cl : (ptsB b).length ≤ i
      · rw [if_pos (nI_le cl (by omega)), List.drop_eq_nil_of_le cl]
        exact ⟨m, rfl, g5, g6, hx, i2, eqOn.refl m, rfl⟩
      · rw [if_neg (nI_ge (by omega) (by omega))]
        obtain ⟨y, hy⟩ := get_some (l := ptsB b) (i := i) (by omega)
        have hyc := hcosts y (List.mem_of_getElem? hy)
        have hy' : (ptsB b)[i - 1 + 1]? = some y := by rw [show i - 1 + 1 = i by omega]; exact hy
        obtain ⟨m1, e1, e2, e3, e4, e5, e6, e10, -, -⟩ := read_at i1 i2 hok hs hy'
        rw [e1, bind_e]
        dsimp only
        rw [if_pos rfl, ldO_n e3.1 e3.2.2, bind_e, e10, e4.2.2.1 5 (by omega), g5, drop_get hy]
        show ∃ m', _ ∧ gI m' r 5 = nI (foldI deF (deF x i y) (i + 1) ((ptsB b).drop (i + 1))).1 ∧ gI m' r 6 = (foldI deF (deF x i y) (i + 1) ((ptsB b).drop (i + 1))).2 ∧ (foldI deF (deF x i y) (i + 1) ((ptsB b).drop (i + 1))).1 ≤ 1480 ∧ _
        simp only [bd_e, nI_1, bind_e]
        by_cases cc : x.1 < y.2.2.1
        · rw [if_neg (nI_ge cc (by omega))]
          have he : deF x i y = (y.2.2.1, nI y.1) := if_pos cc
          rw [he]
          have ez : eqOn (offr r) m1 (sI (sI m1 r 5 (nI y.2.2.1)) r 6 (nI y.1)) := (eqOn_sI (fun z => z.1 rfl)).trans (eqOn_sI (fun z => z.1 rfl))
          have g0 : gI (sI m1 r 5 (nI y.2.2.1)) (r + 1) 0 = nI y.1 := by rw [gI_sI_n (Or.inl (by omega))]; exact e5
          rw [e10, ldO_n (b := r + 1) (m := sI m1 r 5 (nI y.2.2.1)) e3.1 e3.2.2, bind_e, g0]
          obtain ⟨p, c', l', d1, d2⟩ := e2
          obtain ⟨m2, r1, r2, r3, r4, r5, r6, r7⟩ := ih (i + 1) (sI (sI m1 r 5 (nI y.2.2.1)) r 6 (nI y.1)) (y.2.2.1, nI y.1) (by omega) (by omega) (by omega) (by
            rw [show i + 1 - 1 = i - 1 + 1 by omega]
            obtain ⟨q1, q2, q3, q4, q5, q6, q7⟩ := d2
            exact ⟨p, c', l', d1, (q1.put (by decide)).put (by decide), q2, q3, q4, (q5.sI (by omega)).sI (by omega), q6, by rw [gI_sI_n (Or.inr (by decide)), gI_sI_n (Or.inr (by decide))]; exact q7⟩) e3 ((i3.on e4.1 hra hra1).on ez hra hra1) (by rw [gI_sI_n (Or.inr (by decide)), gI_sI_s]) gI_sI_s (by dsimp only; omega)
          exact ⟨m2, r1, r2, r3, r4, r5, (e4.1.trans ez).trans r6, r7.trans e4.2.1⟩
        · rw [if_pos (nI_le (by omega) (by omega))]
          have he : deF x i y = x := if_neg cc
          rw [he]
          obtain ⟨m2, r1, r2, r3, r4, r5, r6, r7⟩ := ih (i + 1) m1 x (by omega) (by omega) (by omega) (by rw [show i + 1 - 1 = i - 1 + 1 by omega]; exact e2) e3 (i3.on e4.1 hra hra1) ((e4.2.2.1 5 (by omega)).trans g5) ((e4.2.2.1 6 (by omega)).trans g6) hx
          exact ⟨m2, r1, r2, r3, r4, r5, e4.1.trans r6, r7.trans e4.2.1⟩
  obtain ⟨m2, e1, e2, e3, e4, e5, e6, e7⟩ := key FU 1 m1 (c, gI m1 r 6) (Nat.le_refl _) (by omega) (by rw [FU_e]; omega) o2 o3 ((h.on e0 hra hra1).on o4 hra hra1) (by rw [o6 5 (by omega) (by omega)]; exact gI_sI_s) rfl hc
  rw [show (1 : Int32) = nI 1 from rfl, e1]
  have hind := deF_ind ((ptsB b).drop 1) c 1 s0 (gI m1 r 6)
  unfold f_X6_findDearest_69
  rw [e2]
  unfold deA
  rw [← hind.2.1] at e2 e4 ⊢
  refine ⟨m2, ?_, fun hlt => ⟨e2, ?_⟩, e5, (e0.trans o4).trans e6, e7.trans o5⟩
  · by_cases cc : c < (foldI deF (c, s0) 1 ((ptsB b).drop 1)).1
    · rw [if_neg (nI_ge cc (by omega)), if_pos cc]; rfl
    · rw [if_pos (nI_le (by omega) (by omega)), if_neg cc]
  · rw [e3, hind.2.2.1 hlt]
