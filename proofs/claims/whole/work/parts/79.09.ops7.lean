/-! ===== calls of the class: two series ===== -/
theorem gath2 {K : Kn} {m : Mem} {B : Nat} {s : St} (hok : stOk s) (h : RX K m B s) {a : Nat} {S : Sr} (hS : srOk S) (ha : seR K m a S) (hai : ∃ i, i < 5 ∧ a = B + 2 + 38 * i) (x1 x2 : Int32) : ∃ m', F_X7_gather K m a x1 x2 (B + 199) (B + 195) = some m' ∧ ptR K m' (B + 195) 11812 (spanP S x1.toInt x2.toInt) ∧ RX K m' B s ∧ eqOn (fun q => off (B + 195) 3 q ∧ offr (B + 199) q) m m' ∧ szm m' = szm m := by
  obtain ⟨i, hi, rfl⟩ := hai
  obtain ⟨m', e1, e2, e3, e4, e5⟩ := gather_ok ha hS (ga_ok2 hi) h.2.2.1.1 h.2.2.1.2.2.1 x1 x2
  have eq : eqOn (offq B) m m' := e4.mono (fun q hq => by
    have hq : q < B + 192 ∨ B + 203 ≤ q := hq
    refine ⟨by unfold off; omega, by omega, by omega⟩)
  have hr := h.2.2.1
  refine ⟨m', e1, e2, h.q hok eq ⟨e3, hr.2.1.on e4 ⟨by unfold off; omega, by omega, by omega⟩, e2.s, ?_, ?_, ?_⟩, e4, e5⟩
  · exact (e4.R ⟨by unfold off; omega, by omega, by omega⟩).trans hr.2.2.2.1
  · exact (e4.R ⟨by unfold off; omega, by omega, by omega⟩).trans hr.2.2.2.2.1
  · exact (e4.R ⟨by unfold off; omega, by omega, by omega⟩).trans hr.2.2.2.2.2
theorem gatherBoth_ok {K : Kn} {m : Mem} {B : Nat} {s : St} (hok : stOk s) (h : RX K m B s) {x y : Int32} {S T : Sr} (hx : sl s x = some S) (hy : sl s y = some T) : ∃ m', F_X8_gatherBoth K m B x y = some m' ∧ ptR K m' (B + 192) 11812 (allP S) ∧ ptR K m' (B + 195) 11812 (allP T) ∧ RX K m' B s ∧ eqOn (offq B) m m' ∧ szm m' = szm m := by
  obtain ⟨m1, e1, e2, e3, e4, e5⟩ := spn hok h hx 0 2000000000
  rw [toI_0, toI_2g, span_all (sl_ok hok hx)] at e2
  obtain ⟨j, a, hj, rfl, hsj, hS, f1, f2, f3, f4⟩ := e3.at hok hy
  obtain ⟨m2, g1, g2, g3, g4, g5⟩ := gath2 hok e3 hS f3 f4 0 2000000000
  rw [toI_0, toI_2g, span_all hS] at g2
  unfold F_X8_gatherBoth f_X8_gatherBoth
  rw [e1, f1, bind_e, f2, bind_e, ldO_n e3.2.1.2.2.2.2.1 e3.2.2.1.1.2.1, bind_e, ldO_n e3.2.1.2.2.1 e3.2.2.1.2.2.1.2.2.1, bind_e, g1, bind_e]
  refine ⟨m2, rfl, e2.on g4 ⟨by unfold off; omega, by omega, by omega⟩ ⟨by unfold off; omega, by omega, by omega⟩ ⟨by unfold off; omega, by omega, by omega⟩, g2, g3, e4.trans (g4.mono (fun q hq => ?_)), g5.trans e5⟩
  unfold offq at hq
  exact ⟨by unfold off; omega, by omega, by omega⟩
/-- pairs: its state may change -/
theorem RX.prs {K : Kn} {m m' : Mem} {B : Nat} {s : St} (hok : stOk s) (h : RX K m B s) (e : eqOn (offp (B + 198)) m m') (h0 : gR m' (B + 198) 0 = some (B + 192)) (h1 : gR m' (B + 198) 1 = some (B + 195)) : RX K m' B s ∧ eqOn (offq B) m m' := by
  have hr := h.2.2.1
  have oc : ∀ q, q ≠ B + 198 → offp (B + 198) q := fun q hq => hq
  have eq : eqOn (offq B) m m' := e.mono (fun q hq => by unfold offq at hq; show q ≠ B + 198; omega)
  exact ⟨h.q hok eq ⟨hr.1.on e (oc _ (by omega)), hr.2.1.on e (oc _ (by omega)), hr.2.2.1.on e (oc _ (by omega)), h0, h1, (e.R (oc _ (by omega))).trans hr.2.2.2.2.2⟩, eq⟩
theorem pairs_o {K : Kn} {m : Mem} {B : Nat} {s : St} (h : RX K m B s) : ldO K m B 4 3 = some (B + 198) := ldO_n h.2.1.2.2.2.1 h.1.2.2.2.1
theorem pbegin_ok {K : Kn} {m : Mem} {B : Nat} {s : St} {A C : List Pt} (hok : stOk s) (h : RX K m B s) (hA : ptR K m (B + 192) 11812 A) (hC : ptR K m (B + 195) 11812 C) : ∃ m', F_X4_begin K m (B + 198) = some (nI (A.length + C.length), m') ∧ prR K m' (B + 198) (B + 192) (B + 195) 11812 0 0 A C ∧ RX K m' B s ∧ eqOn (offp (B + 198)) m m' ∧ szm m' = szm m := by
  have hr := h.2.2.1
  unfold F_X4_begin f_X4_begin
  simp only [bd_e]
  have E : eqOn (offp (B + 198)) m (sI (sI m (B + 198) 2 0) (B + 198) 3 0) := (eqOn_sI (fun z => z rfl)).trans (eqOn_sI (fun z => z rfl))
  have oc : ∀ q, q ≠ B + 198 → offp (B + 198) q := fun q hq => hq
  have hA' := hA.on E (oc _ (by omega)) (oc _ (by omega)) (oc _ (by omega))
  have hC' := hC.on E (oc _ (by omega)) (oc _ (by omega)) (oc _ (by omega))
  have r0 : gR (sI (sI m (B + 198) 2 0) (B + 198) 3 0) (B + 198) 0 = some (B + 192) := hr.2.2.2.1
  have r1 : gR (sI (sI m (B + 198) 2 0) (B + 198) 3 0) (B + 198) 1 = some (B + 195) := hr.2.2.2.2.1
  rw [ldO_n r0 hA.2.2.1, bind_e, ldO_n r1 hC.2.2.1, bind_e, hA'.2.2.2.2.2.1, hC'.2.2.2.2.2.1, nI_add]
  refine ⟨_, rfl, ⟨r0, r1, hA', hC', ?_, gI_sI_s, Nat.zero_le _, Nat.zero_le _, by unfold off; omega, by unfold off; omega⟩, (h.prs hok E r0 r1).1, E, rfl⟩
  rw [gI_sI_n (Or.inr (by decide)), gI_sI_s]; rfl
def bothF (w : Int32) (x : Int32) (e : Ent) : Int32 := if w = 0 then (if (e.2.1 && e.2.2.1) = true then x + 1 else x) else if e.2.2.2 = true then x + 1 else x
theorem zip_none {n : Nat} {A B : List Pt} (h : stP A B = none) : zipP n A B = [] := by
  cases n with
  | zero => rfl
  | succ n => unfold zipP; rw [h]
theorem zip_some {n : Nat} {A C A' C' : List Pt} {q : Pt} {b1 b2 al : Bool} (h : stP A C = some (q, b1, b2, al, A', C')) : zipP (n + 1) A C = (q, b1, b2, al) :: zipP n A' C' := by rw [zipP, h]
theorem both_loop {K : Kn} {B : Nat} {s : St} {A C : List Pt} {x1 x2 w : Int32} (hok : stOk s) (hA : ∀ q ∈ A, q.1 ≤ 2000000000) (hC : ∀ q ∈ C, q.1 ≤ 2000000000) : ∀ (f n : Nat) (m : Mem) (i j : Nat) (x : Int32), n < f → n < 100000 → RX K m B s → prR K m (B + 198) (B + 192) (B + 195) 11812 i j A C → ∃ m', f_X8_both_46 K B x1 x2 w f m x (nI n) = some ((zipP n (A.drop i) (C.drop j)).foldl (bothF w) x, m') ∧ RX K m' B s ∧ eqOn (offq B) m m' ∧ szm m' = szm m
  | 0, _, _, _, _, _, h, _, _, _ => absurd h (Nat.not_lt_zero _)
  | f + 1, n, m, i, j, x, hn, hn2, h, hp => by
    have unf : f_X8_both_46 K B x1 x2 w (f + 1) m x (nI n) = f_X8_both_46B K B x1 x2 w (f_X8_both_46 K B x1 x2 w f) m x (nI n) := rfl
    rw [unf]
    unfold f_X8_both_46B f_X8_both_97 f_X8_both_91 f_X8_both_88 f_X8_both_91
    cases n with
    | zero =>
      rw [if_pos (by decide)]
      exact ⟨m, rfl, h, eqOn.refl m, rfl⟩
    | succ n =>
      rw [if_neg (nI_nle (by omega) (by omega)), pairs_o h, bind_e]
      have hadv := advance_ok hp hA hC
      cases hst : stP (A.drop i) (C.drop j) with
      | none =>
        rw [hst] at hadv
        rw [hadv, bind_e, zip_none hst]
        dsimp only
        rw [if_pos rfl]
        exact ⟨m, rfl, h, eqOn.refl m, rfl⟩
      | some r =>
        obtain ⟨q, b1, b2, al, A', C'⟩ := r
        rw [hst] at hadv
        obtain ⟨m1, i', j', a1, a2, a3, a4, ⟨n4, n5, n6, n7, n8⟩, a6, a7⟩ := hadv
        obtain ⟨k1, k2⟩ := h.prs hok a6 a2.1 a2.2.1
        rw [a1, bind_e]
        dsimp only
        rw [if_neg (by decide)]
        have hz : zipP (n + 1) (A.drop i) (C.drop j) = (q, b1, b2, al) :: zipP n A' C' := zip_some hst
        rw [hz, List.foldl_cons]
        simp only [bd_e]
        rw [show nI (n + 1) + (-1 : Int32) = nI n from pk_m1 n, pairs_o k1]
        simp only [bind_e]
        have go : ∀ x', ∃ m', f_X8_both_46 K B x1 x2 w f m1 x' (nI n) = some ((zipP n A' C').foldl (bothF w) x', m') ∧ RX K m' B s ∧ eqOn (offq B) m m' ∧ szm m' = szm m := by
          intro x'
          obtain ⟨m2, r1, r2, r3, r4⟩ := both_loop (x1 := x1) (x2 := x2) (w := w) hok hA hC f n m1 i' j' x' (by omega) (by omega) k1 a2
          rw [a3, a4] at r1
          exact ⟨m2, r1, r2, k2.trans r3, r4.trans a7⟩
        have hin : F_X4_isInBoth K m1 (B + 198) = some (if (b1 && b2) = true then 1 else 0) := by
          unfold F_X4_isInBoth f_X4_isInBoth f_X4_isInBoth_18
          rw [n4, n5]
          cases b1 <;> cases b2 <;> rfl
        have hal : F_X4_isAlike K m1 (B + 198) = some (if al = true then 1 else 0) := by
          unfold F_X4_isAlike f_X4_isAlike
          rw [n6, gd_t (by cases al <;> simp)]
        by_cases w0 : w = 0
        · rw [if_pos w0, hin, bind_e]
          by_cases hb : (b1 && b2) = true
          · have e : bothF w x (q, b1, b2, al) = x + 1 := by unfold bothF; rw [if_pos w0]; exact if_pos hb
            rw [if_neg (show ¬ (if (b1 && b2) = true then (1 : Int32) else 0) = 0 by rw [if_pos hb]; decide), e]; exact go _
          · have e : bothF w x (q, b1, b2, al) = x := by unfold bothF; rw [if_pos w0]; exact if_neg hb
            rw [if_pos (show (if (b1 && b2) = true then (1 : Int32) else 0) = 0 by rw [if_neg hb]), e]; exact go _
        · rw [if_neg w0, hal, bind_e]
          by_cases hb : al = true
          · have e : bothF w x (q, b1, b2, al) = x + 1 := by unfold bothF; rw [if_neg w0]; exact if_pos hb
            rw [if_neg (show ¬ (if al = true then (1 : Int32) else 0) = 0 by rw [if_pos hb]; decide), e]; exact go _
          · have e : bothF w x (q, b1, b2, al) = x := by unfold bothF; rw [if_neg w0]; exact if_neg hb
            rw [if_pos (show (if al = true then (1 : Int32) else 0) = 0 by rw [if_neg hb]), e]; exact go _
def zipA (S T : Sr) : List Ent := zipP ((allP S).length + (allP T).length) (allP S) (allP T)
def aBoth (s : St) (x y w : Int32) : Int32 := match sl s x, sl s y with
  | some S, some T => if w < 0 then -2 else if w ≤ (1 : Int32) then (zipA S T).foldl (bothF w) 0 else -2
  | _, _ => -2
theorem both_ok {K : Kn} {m : Mem} {B : Nat} {s : St} (hok : stOk s) (h : RX K m B s) (x y w : Int32) : okX K m B (F_X8_both K m B x y w) (aBoth s x y w) s := by
  unfold F_X8_both f_X8_both aBoth
  rcases isNone_c h x with ⟨hs, hn⟩ | ⟨S, hs, hn⟩
  · rw [hn, hs, bind_e, if_neg (by decide)]; exact okX.same h
  rcases isNone_c h y with ⟨ht, hm⟩ | ⟨T, ht, hm⟩
  · rw [hn, hs, ht, bind_e, if_pos rfl, hm, bind_e, if_neg (by decide)]; exact okX.same h
  · rw [hn, hs, ht, bind_e, if_pos rfl, hm, bind_e, if_pos rfl]
    dsimp only
    by_cases c1 : w < 0
    · rw [if_pos c1, if_pos c1]; exact okX.same h
    rw [if_neg c1, if_neg c1]
    by_cases c2 : w ≤ (1 : Int32)
    · rw [if_pos c2, if_pos c2]
      obtain ⟨m1, g1, g2, g3, g4, g5, g6⟩ := gatherBoth_ok hok h hs ht
      obtain ⟨m2, p1, p2, p3, p4, p5⟩ := pbegin_ok hok g4 g2 g3
      have l1 := pt_len g2
      have l2 := pt_len g3
      rw [g1, bind_e, pairs_o g4, bind_e, p1, bind_e]
      simp only [bd_e]
      obtain ⟨m3, r1, r2, r3, r4⟩ := both_loop (x1 := x) (x2 := y) (w := w) hok (allP_le (sl_ok hok hs)) (allP_le (sl_ok hok ht)) FU ((allP S).length + (allP T).length) m2 0 0 0 (by rw [FU_e]; omega) (by omega) p3 p2
      rw [List.drop_zero, List.drop_zero] at r1
      rw [r1]
      have eo : eqOn (offq B) m1 m2 := p4.mono (fun q hq => by unfold offq at hq; show q ≠ B + 198; omega)
      exact ⟨m3, rfl, r2, offq_off ((g5.trans eo).trans r3), r4.trans (p5.trans g6)⟩
    · rw [if_neg c2, if_neg c2]; exact okX.same h
def diffE (l : List Ent) : Int32 := match l with
  | [] => -1
  | e :: l => if e.2.2.2 = true then diffE l else nI e.1.1
theorem differ_loop {K : Kn} {B : Nat} {s : St} {A C : List Pt} {x1 x2 : Int32} (hok : stOk s) (hA : ∀ q ∈ A, q.1 ≤ 2000000000) (hC : ∀ q ∈ C, q.1 ≤ 2000000000) : ∀ (f n : Nat) (m : Mem) (i j : Nat), n < f → n < 100000 → RX K m B s → prR K m (B + 198) (B + 192) (B + 195) 11812 i j A C → ∃ m', f_X8_differ_33 K B x1 x2 f m (nI n) = some (diffE (zipP n (A.drop i) (C.drop j)), m') ∧ RX K m' B s ∧ eqOn (offq B) m m' ∧ szm m' = szm m
  | 0, _, _, _, _, h, _, _, _ => absurd h (Nat.not_lt_zero _)
  | f + 1, n, m, i, j, hn, hn2, h, hp => by
    have unf : f_X8_differ_33 K B x1 x2 (f + 1) m (nI n) = f_X8_differ_33B K B x1 x2 (f_X8_differ_33 K B x1 x2 f) m (nI n) := rfl
    rw [unf]
    unfold f_X8_differ_33B
    cases n with
    | zero =>
      rw [if_pos (by decide)]
      exact ⟨m, rfl, h, eqOn.refl m, rfl⟩
    | succ n =>
      rw [if_neg (nI_nle (by omega) (by omega)), pairs_o h, bind_e]
      have hadv := advance_ok hp hA hC
      cases hst : stP (A.drop i) (C.drop j) with
      | none =>
        rw [hst] at hadv
        rw [hadv, bind_e, zip_none hst]
        dsimp only
        rw [if_pos rfl]
        exact ⟨m, rfl, h, eqOn.refl m, rfl⟩
      | some r =>
        obtain ⟨q, b1, b2, al, A', C'⟩ := r
        rw [hst] at hadv
        obtain ⟨m1, i', j', a1, a2, a3, a4, ⟨n4, n5, n6, n7, n8⟩, a6, a7⟩ := hadv
        obtain ⟨k1, k2⟩ := h.prs hok a6 a2.1 a2.2.1
        rw [a1, bind_e]
        dsimp only
        rw [if_neg (by decide)]
        have hz : zipP (n + 1) (A.drop i) (C.drop j) = (q, b1, b2, al) :: zipP n A' C' := zip_some hst
        rw [hz]
        simp only [bd_e]
        rw [show nI (n + 1) + (-1 : Int32) = nI n from pk_m1 n, pairs_o k1]
        simp only [bind_e]
        have hal : F_X4_isAlike K m1 (B + 198) = some (if al = true then 1 else 0) := by
          unfold F_X4_isAlike f_X4_isAlike
          rw [n6, gd_t (by cases al <;> simp)]
        rw [hal, bind_e]
        by_cases hb : al = true
        · have e : diffE ((q, b1, b2, al) :: zipP n A' C') = diffE (zipP n A' C') := by rw [diffE]; exact if_pos hb
          rw [if_neg (show ¬ (if al = true then (1 : Int32) else 0) = 0 by rw [if_pos hb]; decide), e]
          obtain ⟨m2, r1, r2, r3, r4⟩ := differ_loop (x1 := x1) (x2 := x2) hok hA hC f n m1 i' j' (by omega) (by omega) k1 a2
          rw [a3, a4] at r1
          exact ⟨m2, r1, r2, k2.trans r3, r4.trans a7⟩
        · have e : diffE ((q, b1, b2, al) :: zipP n A' C') = nI q.1 := by rw [diffE]; exact if_neg hb
          rw [if_pos (show (if al = true then (1 : Int32) else 0) = 0 by rw [if_neg hb]), e, n7]
          exact ⟨m1, rfl, k1, k2, a7⟩
def aDiffer (s : St) (x y : Int32) : Int32 := match sl s x, sl s y with
  | some S, some T => diffE (zipA S T)
  | _, _ => -2
theorem differ_ok {K : Kn} {m : Mem} {B : Nat} {s : St} (hok : stOk s) (h : RX K m B s) (x y : Int32) : okX K m B (F_X8_differ K m B x y) (aDiffer s x y) s := by
  unfold F_X8_differ f_X8_differ aDiffer
  rcases isNone_c h x with ⟨hs, hn⟩ | ⟨S, hs, hn⟩
  · rw [hn, hs, bind_e, if_neg (by decide)]; exact okX.same h
  rcases isNone_c h y with ⟨ht, hm⟩ | ⟨T, ht, hm⟩
  · rw [hn, hs, ht, bind_e, if_pos rfl, hm, bind_e, if_neg (by decide)]; exact okX.same h
  · rw [hn, hs, ht, bind_e, if_pos rfl, hm, bind_e, if_pos rfl]
    obtain ⟨m1, g1, g2, g3, g4, g5, g6⟩ := gatherBoth_ok hok h hs ht
    obtain ⟨m2, p1, p2, p3, p4, p5⟩ := pbegin_ok hok g4 g2 g3
    have l1 := pt_len g2
    have l2 := pt_len g3
    rw [g1, bind_e, pairs_o g4, bind_e, p1, bind_e]
    simp only [bd_e]
    obtain ⟨m3, r1, r2, r3, r4⟩ := differ_loop (x1 := x) (x2 := y) hok (allP_le (sl_ok hok hs)) (allP_le (sl_ok hok ht)) FU ((allP S).length + (allP T).length) m2 0 0 (by rw [FU_e]; omega) (by omega) p3 p2
    rw [List.drop_zero, List.drop_zero] at r1
    rw [r1]
    have eo : eqOn (offq B) m1 m2 := p4.mono (fun q hq => by unfold offq at hq; show q ≠ B + 198; omega)
    exact ⟨m3, rfl, r2, offq_off ((g5.trans eo).trans r3), r4.trans (p5.trans g6)⟩
/-- the points of both rows -/
def entP (l : List Ent) : List Pt := l.map Prod.fst
theorem stP_spec {A C A' C' : List Pt} {q : Pt} {b1 b2 al : Bool} (hA : srt A) (hC : srt C) (h : stP A C = some (q, b1, b2, al, A', C')) : srt A' ∧ srt C' ∧ (∀ z, z ∈ A' → q.1 < z.1 ∧ z ∈ A) ∧ (∀ z, z ∈ C' → q.1 < z.1 ∧ z ∈ C) ∧ (q ∈ A ∨ q ∈ C) ∧ A'.length + C'.length < A.length + C.length ∧ (∀ z, z ∈ A → z = q ∨ z ∈ A' ∨ (b1 = false ∧ q.1 < z.1 ∧ z ∈ A')) ∧ (∀ z, z ∈ C → (z.1 = q.1 ∧ b2 = true) ∨ z ∈ C') ∧ (b1 = true → q ∈ A) ∧ (b1 = false → q ∈ C ∧ ∀ z ∈ A, z.1 ≠ q.1) := by
  unfold stP at h
  cases A with
  | nil =>
    cases C with
    | nil => cases h
    | cons c C =>
      cases h
      have hp := List.pairwise_cons.mp hC
      exact ⟨hA, hp.2, fun z hz => by simp at hz, fun z hz => ⟨hp.1 z hz, by simp [hz]⟩, Or.inr (by simp), by simp only [List.length_cons]; omega, fun z hz => by simp at hz, fun z hz => by
        rcases List.mem_cons.mp hz with rfl | hz
        · exact Or.inl ⟨rfl, rfl⟩
        · exact Or.inr hz, fun z => (by cases z), fun _ => ⟨by simp, fun z hz => by simp at hz⟩⟩
  | cons a A =>
    have hpa := List.pairwise_cons.mp hA
    cases C with
    | nil =>
      cases h
      exact ⟨hpa.2, hC, fun z hz => ⟨hpa.1 z hz, by simp [hz]⟩, fun z hz => by simp at hz, Or.inl (by simp), by simp only [List.length_cons]; omega, fun z hz => by
        rcases List.mem_cons.mp hz with rfl | hz
        · exact Or.inl rfl
        · exact Or.inr (Or.inl hz), fun z hz => by simp at hz, fun _ => by simp, fun z => by cases z⟩
    | cons c C =>
      have hpc := List.pairwise_cons.mp hC
      dsimp only at h
      split at h
      · rename_i c1
        cases h
        refine ⟨hpa.2, hC, fun z hz => ⟨hpa.1 z hz, by simp [hz]⟩, fun z hz => ⟨?_, hz⟩, Or.inl (by simp), by simp only [List.length_cons]; omega, fun z hz => ?_, fun z hz => Or.inr hz, fun _ => by simp, fun z => by cases z⟩
        · rcases List.mem_cons.mp hz with rfl | hz
          · exact c1
          · have := hpc.1 z hz; omega
        · rcases List.mem_cons.mp hz with rfl | hz
          · exact Or.inl rfl
          · exact Or.inr (Or.inl hz)
      · rename_i c1
        split at h
        · rename_i c2
          cases h
          refine ⟨hA, hpc.2, fun z hz => ⟨?_, hz⟩, fun z hz => ⟨hpc.1 z hz, by simp [hz]⟩, Or.inr (by simp), by simp only [List.length_cons]; omega, fun z hz => Or.inr (Or.inl hz), fun z hz => ?_, fun z => (by cases z), fun _ => ⟨by simp, fun z hz => ?_⟩⟩
          · rcases List.mem_cons.mp hz with rfl | hz
            · exact c2
            · have := hpa.1 z hz; omega
          · rcases List.mem_cons.mp hz with rfl | hz
            · exact Or.inl ⟨rfl, rfl⟩
            · exact Or.inr hz
          · rcases List.mem_cons.mp hz with rfl | hz
            · omega
            · have := hpa.1 z hz; omega
        · rename_i c2
          have he : a.1 = c.1 := by omega
          cases h
          refine ⟨hpa.2, hpc.2, fun z hz => ⟨hpa.1 z hz, by simp [hz]⟩, fun z hz => ⟨by have := hpc.1 z hz; omega, by simp [hz]⟩, Or.inl (by simp), by simp only [List.length_cons]; omega, fun z hz => ?_, fun z hz => ?_, fun _ => by simp, fun z => by cases z⟩
          · rcases List.mem_cons.mp hz with rfl | hz
            · exact Or.inl rfl
            · exact Or.inr (Or.inl hz)
          · rcases List.mem_cons.mp hz with rfl | hz
            · exact Or.inl ⟨he.symm, rfl⟩
            · exact Or.inr hz
theorem stP_none {A C : List Pt} (h : stP A C = none) : A = [] ∧ C = [] := by
  unfold stP at h
  cases A with
  | nil => cases C with
    | nil => exact ⟨rfl, rfl⟩
    | cons c C => cases h
  | cons a A => cases C with
    | nil => cases h
    | cons c C =>
      dsimp only at h
      split at h
      · cases h
      · split at h <;> cases h
theorem srt_uniq {l : List Pt} (h : srt l) {x y : Pt} (hx : x ∈ l) (hy : y ∈ l) (e : x.1 = y.1) : x = y := by
  obtain ⟨i, hi⟩ := List.getElem?_of_mem hx
  obtain ⟨j, hj⟩ := List.getElem?_of_mem hy
  rcases Nat.lt_trichotomy i j with c | c | c
  · have := srt_lt h hi hj c; omega
  · subst c; rw [hi] at hj; exact Option.some.inj hj
  · have := srt_lt h hj hi c; omega
theorem zip_spec : ∀ (n : Nat) (A C : List Pt), A.length + C.length ≤ n → srt A → srt C → srt (entP (zipP n A C)) ∧ ∀ q, q ∈ entP (zipP n A C) ↔ q ∈ A ∨ (q ∈ C ∧ ∀ z ∈ A, z.1 ≠ q.1)
  | 0, A, C, h, _, _ => by
    have h1 : A = [] := List.length_eq_zero_iff.mp (by omega)
    have h2 : C = [] := List.length_eq_zero_iff.mp (by omega)
    subst h1; subst h2
    exact ⟨List.Pairwise.nil, fun q => by simp [zipP, entP]⟩
  | n + 1, A, C, h, hA, hC => by
    cases hst : stP A C with
    | none =>
      obtain ⟨rfl, rfl⟩ := stP_none hst
      rw [zip_none hst]
      exact ⟨List.Pairwise.nil, fun q => by simp [entP]⟩
    | some r =>
      obtain ⟨q, b1, b2, al, A', C'⟩ := r
      obtain ⟨s1, s2, s3, s4, s5, s6, s7, s8, s9, s10⟩ := stP_spec hA hC hst
      obtain ⟨r1, r2⟩ := zip_spec n A' C' (by omega) s1 s2
      rw [zip_some hst]
      have e : entP ((q, b1, b2, al) :: zipP n A' C') = q :: entP (zipP n A' C') := rfl
      rw [e]
      refine ⟨List.pairwise_cons.mpr ⟨fun z hz => ?_, r1⟩, fun z => ?_⟩
      · rcases (r2 z).mp hz with hz | ⟨hz, -⟩
        · exact (s3 z hz).1
        · exact (s4 z hz).1
      · rw [List.mem_cons, r2]
        constructor
        · rintro (rfl | hz | ⟨hz, hz2⟩)
          · cases hb : b1 with
            | true => exact Or.inl (s9 hb)
            | false => exact Or.inr (s10 hb)
          · exact Or.inl (s3 z hz).2
          · refine Or.inr ⟨(s4 z hz).2, fun y hy => ?_⟩
            rcases s7 y hy with rfl | hy | ⟨-, hy, hy2⟩
            · have := (s4 z hz).1; omega
            · exact hz2 y hy
            · exact hz2 y hy2
        · rintro (hz | ⟨hz, hz2⟩)
          · rcases s7 z hz with hz | hz | ⟨-, -, hz⟩
            · exact Or.inl hz
            · exact Or.inr (Or.inl hz)
            · exact Or.inr (Or.inl hz)
          · rcases s8 z hz with ⟨hz3, hb2⟩ | hz3
            · cases hb : b1 with
              | true => exact absurd hz3.symm (hz2 q (s9 hb))
              | false =>
                left
                have hq := (s10 hb).1
                exact srt_uniq hC hz hq hz3
            · exact Or.inr (Or.inr ⟨hz3, fun y hy => hz2 y (s3 y hy).2⟩)
