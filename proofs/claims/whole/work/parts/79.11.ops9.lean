/-! ===== calls of the class: dearest, where, takes ===== -/
def deB (x : Nat × Int32) (_ : Nat) (b : Bk) : Nat × Int32 := if sndB b = true then deA x (ptsB b) else x
theorem deF_le {b : Nat} : ∀ (l : List PtR) (i : Nat) (x : Nat × Int32), (∀ q ∈ l, q.2.2.1 ≤ b) → x.1 ≤ b → (foldI deF x i l).1 ≤ b
  | [], _, x, _, h => h
  | q :: l, i, x, hq, h => by
    show (foldI deF (deF x i q) (i + 1) l).1 ≤ b
    refine deF_le l (i + 1) _ (fun z hz => hq z (by simp [hz])) ?_
    unfold deF
    split
    · exact hq q (by simp)
    · exact h
theorem deA_le {b : Bk} (hok : bkOk b) {x : Nat × Int32} (h : x.1 ≤ 1480) : (deA x (ptsB b)).1 ≤ 1480 := deF_le _ _ _ (fun q hq => (pts_costs hok q (List.mem_of_mem_drop hq)).1) h
def aDearest (s : St) (x w : Int32) : Int32 := match sl s x with
  | none => -2
  | some S => if w < 0 then -2 else if w ≤ (1 : Int32) then (if w = 0 then (foldI deB (0, -1) 0 S.2.2.2).2 else if (foldI deB (0, -1) 0 S.2.2.2).2 = -1 then -1 else nI (foldI deB (0, -1) 0 S.2.2.2).1) else -2
theorem dear_loop {K : Kn} {B a : Nat} {s : St} {S : Sr} {π : Nat → Nat} {x1 w : Int32} (hok : stOk s) (hS : srOk S) {i5 : Nat} (hi5 : i5 < 5 ∧ a = B + 2 + 38 * i5) : ∀ (f i : Nat) (m : Mem) (x : Nat × Int32), i ≤ S.2.2.2.length → S.2.2.2.length - i < f → RX K m B s → seS K m a π → seD K m a π S → x.1 ≤ 1480 → ∃ m', f_X8_dearest_36 K B x1 w f m a (nI x.1) x.2 (nI i) = some ((if w = 0 then (foldI deB x i (S.2.2.2.drop i)).2 else if (foldI deB x i (S.2.2.2.drop i)).2 = -1 then -1 else nI (foldI deB x i (S.2.2.2.drop i)).1), m') ∧ RX K m' B s ∧ eqOn (offq B) m m' ∧ szm m' = szm m
  | 0, _, _, _, _, h, _, _, _, _ => absurd h (Nat.not_lt_zero _)
  | f + 1, i, m, x, hi, hf, h, q2, q3, hx => by
    have h16 := hS.2.2.2.2.2.2.2.1
    have unf : f_X8_dearest_36 K B x1 w (f + 1) m a (nI x.1) x.2 (nI i) = f_X8_dearest_36B K B x1 w (f_X8_dearest_36 K B x1 w f) m a (nI x.1) x.2 (nI i) := rfl
    rw [unf]
    unfold f_X8_dearest_36B f_X8_dearest_94 f_X8_dearest_110
    by_cases c : i = S.2.2.2.length
    · subst c
      rw [if_pos (blk_end q3 hS), List.drop_eq_nil_of_le (Nat.le_refl _)]
      show ∃ m', _ = some ((if w = 0 then x.2 else if x.2 = -1 then -1 else nI x.1), m') ∧ _
      by_cases w0 : w = 0
      · rw [if_pos w0, if_pos w0]; exact ⟨m, rfl, h, eqOn.refl m, rfl⟩
      · rw [if_neg w0, if_neg w0]
        by_cases x2 : x.2 = -1
        · rw [if_pos x2, if_pos x2, x2]; exact ⟨m, rfl, h, eqOn.refl m, rfl⟩
        · rw [if_neg x2, if_neg x2]; exact ⟨m, rfl, h, eqOn.refl m, rfl⟩
    · obtain ⟨b, hb⟩ := get_some (l := S.2.2.2) (i := i) (by omega)
      obtain ⟨b1, b2, b3, b4, b5⟩ := blk_at q2 q3 hS hb
      have hπ := (q2.2.2.2.2.2.2.1 i (by omega)).1
      rw [if_neg b1, b2, bind_e, b3, bind_e, drop_get hb]
      simp only [bd_e, nI_1]
      show ∃ m', _ = some ((if w = 0 then (foldI deB (deB x i b) (i + 1) (S.2.2.2.drop (i + 1))).2 else if (foldI deB (deB x i b) (i + 1) (S.2.2.2.drop (i + 1))).2 = -1 then -1 else nI (foldI deB (deB x i b) (i + 1) (S.2.2.2.drop (i + 1))).1), m') ∧ _
      by_cases cs : sndB b = true
      · have he : deB x i b = deA x (ptsB b) := if_pos cs
        rw [if_pos ((wrong_ok b4 b5).mpr cs), reader_o h, bind_e, he]
        have o1 : offr (B + 199) (a + 6 + 2 * π i) := ⟨by omega, by omega⟩
        have o2 : offr (B + 199) (a + 6 + 2 * π i + 1) := ⟨by omega, by omega⟩
        obtain ⟨m1, w1, w2, w3, w4, w5⟩ := findDearest_ok h.2.2.1.1 b4 b5 cs o1 o2 hx x.2
        rw [w1, bind_e]
        obtain ⟨k1, k2⟩ := h.rdr hok w4 w3
        have hin : insr a 38 (offr (B + 199)) := fun q g1 g2 => ⟨by omega, by omega⟩
        have hle := deA_le (x := x) b5 hx
        obtain ⟨m2, r1, r2, r3, r4⟩ := dear_loop (x1 := x1) (w := w) hok hS hi5 f (i + 1) m1 (deA x (ptsB b)) (by omega) (by omega) k1 (q2.on w4 hin) (q3.on h16 q2 w4 hin) hle
        dsimp only
        by_cases cl : x.1 < (deA x (ptsB b)).1
        · rw [if_neg (show ¬ (if x.1 < (deA (x.1, x.2) (ptsB b)).1 then (1 : Int32) else 0) = 0 by rw [if_pos cl]; decide), reader_o k1]
          simp only [bind_e]
          rw [(w2 cl).1, (w2 cl).2]
          exact ⟨m2, r1, r2, k2.trans r3, r4.trans w5⟩
        · rw [if_pos (show (if x.1 < (deA (x.1, x.2) (ptsB b)).1 then (1 : Int32) else 0) = 0 by rw [if_neg cl])]
          have hsame : deA x (ptsB b) = x := (deF_ind ((ptsB b).drop 1) x.1 1 x.2 x.2).2.2.2 cl
          rw [hsame] at r1 ⊢
          exact ⟨m2, r1, r2, k2.trans r3, r4.trans w5⟩
      · have he : deB x i b = x := if_neg cs
        rw [if_neg (fun z => cs ((wrong_ok b4 b5).mp z)), he]
        exact dear_loop (x1 := x1) (w := w) hok hS hi5 f (i + 1) m x (by omega) (by omega) h q2 q3 hx
theorem dearest_ok {K : Kn} {m : Mem} {B : Nat} {s : St} (hok : stOk s) (h : RX K m B s) (x w : Int32) : okX K m B (F_X8_dearest K m B x w) (aDearest s x w) s := by
  unfold F_X8_dearest f_X8_dearest aDearest
  rcases isNone_c h x with ⟨hs, hn⟩ | ⟨S, hs, hn⟩
  · rw [hn, hs, bind_e, if_neg (by decide)]; exact okX.same h
  · rw [hn, hs, bind_e, if_pos rfl]
    dsimp only
    by_cases c1 : w < 0
    · rw [if_pos c1, if_pos c1]; exact okX.same h
    rw [if_neg c1, if_neg c1]
    by_cases c2 : w ≤ (1 : Int32)
    · rw [if_pos c2, if_pos c2]
      obtain ⟨j, a, hj, rfl, hsj, hS, e1, e2, ⟨π, e3, e3'⟩, e4, ⟨i5, hi5, ea⟩⟩ := h.at2 hok hs
      rw [e1, bind_e, e2, bind_e]
      have h16 := hS.2.2.2.2.2.2.2.1
      obtain ⟨m2, r1, r2, r3, r4⟩ := dear_loop (x1 := nI j) (w := w) hok hS ⟨hi5, ea⟩ FU 0 m (0, -1) (Nat.zero_le _) (by rw [FU_e]; omega) h e3 e3' (by show 0 ≤ 1480; omega)
      rw [List.drop_zero] at r1
      exact ⟨m2, r1, r2, offq_off r3, r4⟩
    · rw [if_neg c2, if_neg c2]; exact okX.same h
/-- the first block that is opened for a stamp -/
def whF (t : Int) : Nat → List Bk → Option Nat
  | _, [] => none
  | i, b :: bl => if touA b t t = true then some i else whF t (i + 1) bl
def aWhere (s : St) (x t : Int32) : Int32 := match sl s x with
  | none => -2
  | some S => if stm t = true then (if hasA S.2.2.1 t.toNatClampNeg = true then -1 else match whF t.toInt 0 S.2.2.2 with
    | none => -1
    | some k => if (spanP S t.toInt t.toInt).length = 0 then -1 else nI k) else -2
theorem where_loop {K : Kn} {B a : Nat} {s : St} {S : Sr} {π : Nat → Nat} {x1 t : Int32} (hok : stOk s) (hS : srOk S) {i5 : Nat} (hi5 : i5 < 5 ∧ a = B + 2 + 38 * i5) {m : Mem} (h : RX K m B s) (q2 : seS K m a π) (q3 : seD K m a π S) : ∀ (f i : Nat), i ≤ S.2.2.2.length → S.2.2.2.length - i < f → ∃ m', f_X8_where_41 K B x1 t f m a (nI i) = some ((match whF t.toInt i (S.2.2.2.drop i) with
      | none => -1
      | some k => if (spanP S t.toInt t.toInt).length = 0 then -1 else nI k), m') ∧ RX K m' B s ∧ eqOn (offq B) m m' ∧ szm m' = szm m
  | 0, _, _, h => absurd h (Nat.not_lt_zero _)
  | f + 1, i, hi, hf => by
    have h16 := hS.2.2.2.2.2.2.2.1
    have unf : f_X8_where_41 K B x1 t (f + 1) m a (nI i) = f_X8_where_41B K B x1 t (f_X8_where_41 K B x1 t f) m a (nI i) := rfl
    rw [unf]
    unfold f_X8_where_41B
    by_cases c : i = S.2.2.2.length
    · subst c
      rw [if_pos (blk_end q3 hS), List.drop_eq_nil_of_le (Nat.le_refl _)]
      exact ⟨m, rfl, h, eqOn.refl m, rfl⟩
    · obtain ⟨b, hb⟩ := get_some (l := S.2.2.2) (i := i) (by omega)
      obtain ⟨b1, b2, b3, b4, b5⟩ := blk_at q2 q3 hS hb
      rw [if_neg b1, b2, bind_e, b3, bind_e, touches_ok b4 b5, bind_e, drop_get hb]
      simp only [bd_e, nI_1, b01]
      by_cases ct : touA b t.toInt t.toInt = true
      · have he : whF t.toInt i (b :: S.2.2.2.drop (i + 1)) = some i := by rw [whF, if_pos ct]
        rw [if_neg (by rw [ct]; decide), reader_o h, bind_e, mine_o h, bind_e, he]
        obtain ⟨m1, g1, g2, g3, g4, g5⟩ := gath hok h hS ⟨π, q2, q3⟩ ⟨i5, hi5⟩ t t
        have hl := pt_len g2
        rw [g1, bind_e, mine_o g3, bind_e, g2.2.2.2.2.2.1]
        dsimp only
        by_cases cz : (spanP S t.toInt t.toInt).length = 0
        · rw [if_pos (by rw [cz]; decide), if_pos cz]; exact ⟨m1, rfl, g3, g4, g5⟩
        · rw [if_neg (nI_nle (by omega) (by omega)), if_neg cz]; exact ⟨m1, rfl, g3, g4, g5⟩
      · have he : whF t.toInt i (b :: S.2.2.2.drop (i + 1)) = whF t.toInt (i + 1) (S.2.2.2.drop (i + 1)) := by rw [whF, if_neg ct]
        rw [if_pos (by cases hh : touA b t.toInt t.toInt <;> simp_all), he]
        exact where_loop (x1 := x1) hok hS hi5 h q2 q3 f (i + 1) (by omega) (by omega)
theorem where_ok {K : Kn} {m : Mem} {B : Nat} {s : St} (hok : stOk s) (h : RX K m B s) (x t : Int32) : okX K m B (F_X8_where K m B x t) (aWhere s x t) s := by
  unfold F_X8_where f_X8_where aWhere
  rcases isNone_c h x with ⟨hs, hn⟩ | ⟨S, hs, hn⟩
  · rw [hn, hs, bind_e, if_neg (by decide)]; exact okX.same h
  · rw [hn, hs, bind_e, if_pos rfl, isStamp_x, bind_e]
    dsimp only
    by_cases ct : stm t = true
    · rw [if_pos ct, if_neg (by decide), if_pos ct]
      obtain ⟨j, a, hj, rfl, hsj, hS, e1, e2, ⟨π, e3, e3'⟩, e4, ⟨i5, hi5, ea⟩⟩ := h.at2 hok hs
      obtain ⟨n, hn2, rfl, hti⟩ := stm_nI ct
      have h16 := hS.2.2.2.2.2.2.2.1
      rw [e1, bind_e, e2, bind_e, ldO_n e3.2.2.1 e3.1.2.2.1, bind_e, holds_ok e3'.2.2.2.2.1 (late_lt hS) hn2, bind_e, nI_clamp (by omega)]
      simp only [b01]
      by_cases ch : hasA S.2.2.1 n = true
      · rw [if_neg (by rw [ch]; decide), if_pos ch]; exact okX.same h
      · rw [if_pos (by cases hh : hasA S.2.2.1 n <;> simp_all), if_neg ch]
        obtain ⟨m2, r1, r2, r3, r4⟩ := where_loop (x1 := nI j) (t := nI n) hok hS ⟨hi5, ea⟩ h e3 e3' FU 0 (Nat.zero_le _) (by rw [FU_e]; omega)
        rw [List.drop_zero] at r1
        exact ⟨m2, r1, r2, offq_off r3, r4⟩
    · rw [if_neg ct, if_neg ct, if_pos rfl]; exact okX.same h
/-- the tape as a block -/
def tpB (s : St) (lst : Nat) : Bk := (s.2.1, s.2.2, true, hst s.2.1, lst)
def nTakes (s : St) (x : Int32) : Int32 × St := match sl s x with
  | none => (-2, s)
  | some S => match exS s.2.1 s.2.2 with
    | .inl e => ((-10 : Int32) - nI e.1, (s.1, s.2.1, 0))
    | .inr r => if s.2.2 ≤ S.1 then (if S.2.1 < (hst s.2.1 : Int) then (match takeS S (tpB s r.2.1.1) with
      | none => (-4, (s.1, s.2.1, 0))
      | some S' => (nI (S'.2.2.2.length - 1), upS (s.1, s.2.1, 0) x.toNatClampNeg S')) else (-5, (s.1, s.2.1, 0))) else (-3, (s.1, s.2.1, 0))
theorem exS_facts {by_ : Nat → Nat} {size : Nat} {p : Nat} {c : Cs} {l : List PtR} (h : exS by_ size = .inr (p, c, l)) : 15 ≤ size ∧ hst by_ ≤ 2000000000 ∧ hst by_ ≤ c.1 ∧ c.1 ≤ 2000000000 ∧ 1 ≤ hct by_ := by
  unfold exS at h
  split at h
  · cases h
  split at h
  · cases h
  split at h
  · cases h
  rename_i c1 c2 c3
  cases hr : rdN (fb by_ (8 * (size - 15))) (8 * (size - 15)) (cs0 by_) (hct by_ - 1) with
  | inl e => rw [hr] at h; cases h
  | inr r =>
    rw [hr] at h
    dsimp only at h
    split at h
    · cases h
    · cases h
      obtain ⟨f1, f2, f3, -⟩ := rdN_facts (cs0_ok (by omega)) _ hr
      exact ⟨by omega, by omega, f3, f1.1, by omega⟩
theorem tpB_ok {s : St} (hok : stOk s) {p : Nat} {c : Cs} {l : List PtR} (h : exS s.2.1 s.2.2 = .inr (p, c, l)) : bkOk (tpB s c.1) ∧ rsB (tpB s c.1) = .inr (p, c, l) := by
  obtain ⟨f1, f2, f3, f4, f5⟩ := exS_facts h
  refine ⟨⟨hok.2.2, by show 14 ≤ s.2.2; omega, hok.2.1, fun _ => f1, fun z => absurd z (by simp [tpB]), f3, f4⟩, ?_⟩
  unfold rsB
  rw [if_pos (show (tpB s c.1).2.2.1 = true from rfl)]
  show exK s.2.1 s.2.2 (hst s.2.1) c.1 = _
  unfold exK
  rw [h]
  dsimp only
  rw [if_neg (by omega)]
theorem exS_inl {by_ : Nat → Nat} {size : Nat} {e : Nat × Int} (h : exS by_ size = .inl e) : e.1 ≠ 0 ∧ e.1 < 8 := by
  have hk : exK by_ size 0 0 = .inl e := by unfold exK; rw [h]
  have := fltS_lt (by_ := by_) (size := size) (fst := 0) (lst := 0)
  rw [hk] at this
  exact ⟨exK_pos hk, this⟩
theorem takes_ok {K : Kn} {m : Mem} {B : Nat} {s : St} (hok : stOk s) (h : RX K m B s) (x : Int32) : okX K m B (F_X8_takes K m B x) (nTakes s x).1 (nTakes s x).2 := by
  have hs200 := hok.2.1
  unfold F_X8_takes f_X8_takes nTakes
  rcases isNone_c h x with ⟨hs, hn⟩ | ⟨S, hs, hn⟩
  · rw [hn, hs, bind_e, if_neg (by decide)]; exact okX.same h
  · rw [hn, hs, bind_e, if_pos rfl, tape_o h, bind_e]
    simp only [bd_e]
    obtain ⟨t1, t2, t3⟩ := h.2.2.2.1
    -- sealed
    have E1 : eqOn (fun q => q ≠ B + 203) m (sI m (B + 203) 6 1) := eqOn_sI (fun z => z rfl)
    obtain ⟨h1, g1⟩ := h.tape (m' := sI m (B + 203) 6 1) (s' := s) hok (eqOn_sI (fun z => by unfold off at z; omega)) ⟨t1, by rw [gI_sI_n (Or.inr (by decide))]; exact t2, fun i hi => by rw [gI_sI_n (Or.inl (by omega))]; exact t3 i hi⟩ rfl
    have w6 : gI (sI m (B + 203) 6 1) (B + 203) 6 = 1 := gI_sI_s
    have z1 : szm (sI m (B + 203) 6 1) = szm m := rfl
    generalize sI m (B + 203) 6 1 = m1 at E1 h1 g1 w6 z1 ⊢
    obtain ⟨j, a, hj, rfl, hsj, hS, e1, e2, e3, e4, ⟨i5, hi5, ea⟩⟩ := h1.at2 hok hs
    rw [e1, bind_e, e2, bind_e]
    obtain ⟨u1, u2, u3⟩ := h1.2.2.2.1
    have hKt := h1.1.2.2.2.2.2.2.1
    have hKt1 : K (B + 203 + 1) = some (.inr (0, 200)) := h1.1.2.2.2.2.2.2.2
    have hy : byR m1 (B + 203 + 1) s.2.1 s.2.2 := fun i hi => ⟨u3 i hi, hok.2.2 i hi⟩
    -- whatever comes: the tape is empty then
    have fin : ∀ (ans : Int32) (m2 : Mem) (s2 : St), F_X8_takenBy K m1 B a = some (ans, m2) → RX K m2 B s2 → stOk s2 → s2.2.1 = s.2.1 → eqOn (off B 205) m1 m2 → szm m2 = szm m1 → okX K m B ((F_X8_takenBy K m1 B a).bind fun q7 => (ldO K q7.2 B 8 0).bind fun b9 => some (q7.1, sI q7.2 b9 1 0)) ans (s2.1, s.2.1, 0) := by
      intro ans m2 s2 f1 f2 f3 f4 f5 f6
      rw [f1, bind_e, tape_o f2, bind_e]
      obtain ⟨v1, v2, v3⟩ := f2.2.2.2.1
      obtain ⟨k1, k2⟩ := f2.tape (m' := sI m2 (B + 203) 1 0) (s' := (s2.1, s.2.1, 0)) f3 (eqOn_sI (fun z => by unfold off at z; omega)) ⟨v1, gI_sI_s, fun i hi => absurd hi (Nat.not_lt_zero _)⟩ rfl
      exact ⟨_, rfl, k1, (g1.trans f5).trans k2, f6.trans z1⟩
    -- the examination
    have hro : rdS K m1 (B + 199) := h1.2.2.1.1
    have ot : offr (B + 199) (B + 203) := ⟨by omega, by omega⟩
    have ot1 : offr (B + 199) (B + 203 + 1) := ⟨by omega, by omega⟩
    obtain ⟨m2, x1, x2, x3, x4, x5⟩ := examine_ok (kn := false) (fst := 0) (lst := 0) hro u1 hKt1 ot ot1 u2 hs200 w6 hy (fun z => by cases z) (fun z => by cases z) (by omega) (by omega)
    rw [knB_f] at x1 x5
    rw [if_neg (show ¬ false = true by decide)] at x1
    obtain ⟨h2, k2⟩ := h1.rdr hok x3 x2
    have hin : insr a 38 (offr (B + 199)) := fun q g1 g2 => ⟨by omega, by omega⟩
    have e3' := seR.on hS.2.2.2.2.2.2.2.1 e3 x3 hin
    obtain ⟨v1, v2, v3⟩ := h2.2.2.2.1
    have hpre : ∀ {γ : Type} (k : Int32 × Mem → Option γ), ((ldO K m1 B 5 5).bind fun b1 => (ldO K m1 B 8 0).bind fun b2 => (F_X6_examine K m1 b1 b2 (0 : Int32)).bind k) = k (nI (fltS (exS s.2.1 s.2.2)), m2) := fun {γ} k => by
      rw [reader_o h1, bind_e, tape_o h1, bind_e, x1, bind_e]
    have g45 : gI m2 a 4 = nI S.1 ∧ gI m2 a 5 = iZ S.2.1 := by obtain ⟨π, -, d⟩ := e3'; exact ⟨d.2.1, d.2.2.1⟩
    have hroom := hS.2.1
    cases hr : exS s.2.1 s.2.2 with
    | inl e =>
      have hne := exS_inl hr
      rw [hr] at hpre
      refine fin _ m2 s ?_ h2 hok rfl (offq_off k2) x4
      unfold F_X8_takenBy f_X8_takenBy
      rw [hpre]
      simp only [bd_e]
      rw [show fltS (.inl e) = e.1 from rfl, if_neg (fun z => by rw [show (0 : Int32) = nI 0 from rfl, nI_eq (by omega) (by omega)] at z; exact hne.1 z)]
    | inr r =>
      obtain ⟨p, c, l⟩ := r
      obtain ⟨f1, f2, f3, f4, f5⟩ := exS_facts hr
      rw [hr] at hpre x5
      obtain ⟨y1, y2, y3, y4, y5⟩ := x5
      dsimp only
      have hb := tpB_ok hok hr
      by_cases c1 : s.2.2 ≤ S.1
      · rw [if_pos c1]
        by_cases c2 : S.2.1 < (hst s.2.1 : Int)
        · rw [if_pos c2]
          -- the tape's stamps, then settled
          have E3 : eqOn (fun q => q ≠ B + 203) m2 (sI (sI m2 (B + 203) 4 (nI (hst s.2.1))) (B + 203) 5 (nI c.1)) := (eqOn_sI (fun z => z rfl)).trans (eqOn_sI (fun z => z rfl))
          have W3 : bkW K (sI (sI m2 (B + 203) 4 (nI (hst s.2.1))) (B + 203) 5 (nI c.1)) (B + 203) (tpB s c.1) := by
            refine ⟨v1, hKt, hKt1, fun i hi => ?_, ?_, ?_, gI_sI_s, ?_⟩
            · rw [gI_sI_n (Or.inl (by omega)), gI_sI_n (Or.inl (by omega))]; exact v3 i hi
            · rw [gI_sI_n (Or.inr (by decide)), gI_sI_n (Or.inr (by decide))]; exact v2
            · rw [gI_sI_n (Or.inr (by decide)), gI_sI_s]; rfl
            · rw [gI_sI_n (Or.inr (by decide)), gI_sI_n (Or.inr (by decide)), x3.I ot, w6]; rfl
          obtain ⟨h3, k3⟩ := h2.tape (m' := sI (sI m2 (B + 203) 4 (nI (hst s.2.1))) (B + 203) 5 (nI c.1)) (s' := s) hok (E3.mono (fun q hq => by unfold off at hq; omega)) ⟨v1, by rw [gI_sI_n (Or.inr (by decide)), gI_sI_n (Or.inr (by decide))]; exact v2, fun i hi => by rw [gI_sI_n (Or.inl (by omega)), gI_sI_n (Or.inl (by omega))]; exact v3 i hi⟩ rfl
          have hP : exP (sI (sI m2 (B + 203) 4 (nI (hst s.2.1))) (B + 203) 5 (nI c.1)) (B + 199) (tpB s c.1).1 (rsB (tpB s c.1)) := by
            rw [hb.2]
            have ne : B + 199 ≠ B + 203 := by omega
            have ne1 : B + 199 + 1 ≠ B + 203 := by omega
            exact ⟨(E3.I ne).trans y1, (E3.I ne).trans y2, (E3.I ne).trans y3, (E3.I ne).trans y4, (E3.I ne1).trans y5⟩
          have z3 : szm (sI (sI m2 (B + 203) 4 (nI (hst s.2.1))) (B + 203) 5 (nI c.1)) = szm m2 := rfl
          have mid : ∀ {γ : Type} (k : Mem → Option γ), ((ldO K m2 B 8 0).bind fun b10 => (ldO K m2 B 5 5).bind fun b11 => bd (sI m2 b10 4 (gI m2 b11 1)) fun m12 => (ldO K m12 B 8 0).bind fun b13 => (ldO K m12 B 5 5).bind fun b14 => (ldO K m12 b14 0 1).bind fun b15 => bd (sI m12 b13 5 (gI m12 b15 0)) k) = k (sI (sI m2 (B + 203) 4 (nI (hst s.2.1))) (B + 203) 5 (nI c.1)) := fun {γ} k => by
            rw [tape_o h2, bind_e, reader_o h2, bind_e]
            simp only [bd_e]
            rw [y4]
            have q1 : ldO K (sI m2 (B + 203) 4 (nI (hst s.2.1))) B 8 0 = some (B + 203) := ldO_n h2.2.1.2.2.2.2.2.2.2 h2.1.2.2.2.2.2.2.1
            have q2 : ldO K (sI m2 (B + 203) 4 (nI (hst s.2.1))) B 5 5 = some (B + 199) := ldO_n h2.2.1.2.2.2.2.1 h2.2.2.1.1.2.1
            have q3 : ldO K (sI m2 (B + 203) 4 (nI (hst s.2.1))) (B + 199) 0 1 = some (B + 199 + 1) := ldO_n x2.1 x2.2.2
            rw [q1, bind_e, q2, bind_e, q3, bind_e, gI_sI_n (Or.inl (by omega)), y5]
          generalize sI (sI m2 (B + 203) 4 (nI (hst s.2.1))) (B + 203) 5 (nI c.1) = m3 at E3 W3 h3 k3 hP z3 mid
          obtain ⟨m4, s1, s2, s3, s4⟩ := settle_bk W3 hb.1 rfl (show B + 203 ≠ B + 199 by omega) hP
          rw [hb.2] at s1
          obtain ⟨v1', v2', v3'⟩ := h3.2.2.2.1
          obtain ⟨h4, k4⟩ := h3.tape (m' := m4) (s' := s) hok (s3.mono (fun q hq => by unfold off at hq; show q ≠ B + 203; omega)) ⟨s2.1, s2.2.2.2.2.1, s2.2.2.2.1⟩ rfl
          have e5 : seR K m4 a S := by
            have q := seR.on hS.2.2.2.2.2.2.2.1 e3' E3 (fun q g1 g2 => show q ≠ B + 203 by omega)
            exact seR.on hS.2.2.2.2.2.2.2.1 q s3 (fun q g1 g2 => show q ≠ B + 203 by omega)
          have e4' : gR m4 (B + 1) j = some a := by
            rw [s3.R (show B + 1 ≠ B + 203 by omega), E3.R (show B + 1 ≠ B + 203 by omega), x3.R (show offr (B + 199) (B + 1) from ⟨by omega, by omega⟩)]
            exact e4
          have pre : ∀ ans m5, F_X7_take K m4 a (B + 203) = some (ans, m5) → F_X8_takenBy K m1 B a = some (ans, m5) := by
            intro ans m5 ht
            unfold F_X8_takenBy f_X8_takenBy
            rw [hpre]
            simp only [bd_e]
            rw [show fltS (.inr (p, c, l)) = 0 from rfl, if_pos (show nI 0 = (0 : Int32) from rfl), tape_o h2, bind_e, v2, g45.1, if_pos ((nI_leI (by omega) (by omega)).mpr c1), reader_o h2, bind_e, g45.2, y4, if_pos ((last_cmp hS _).mpr (by rw [nI_toInt (by omega)]; exact c2))]
            have md := mid (fun m16 => (ldO K m16 B 8 0).bind fun b17 => (ldO K m16 B 5 5).bind fun b18 => (F_X0_settle K m16 b17 (0 : Int32) b18).bind fun q19 => (ldO K q19 B 8 0).bind fun b20 => (F_X7_take K q19 a b20).bind fun q21 => some (q21.1, q21.2))
            rw [tape_o h2, reader_o h2] at md
            simp only [bd_e, bind_e] at md
            rw [y4] at md
            rw [bind_e, bind_e, y4, md, tape_o h3, bind_e, reader_o h3, bind_e]
            have s1' : F_X0_settle K m3 (B + 203) 0 (B + 199) = some m4 := s1
            rw [s1', bind_e, tape_o h4, bind_e, ht, bind_e]
          obtain ⟨tN, tS⟩ := take_ok' (t := B + 203) e5 hS s2 hb.1 rfl (by omega)
          cases htk : takeS S (tpB s c.1) with
          | none =>
            obtain ⟨m5, w1, w2, w3, w4⟩ := tN htk
            obtain ⟨h5, k5⟩ := h4.set hok hj e4' w3 w2
            rw [upS_same hsj] at h5
            exact fin _ m5 s (pre _ _ w1) h5 hok rfl (((offq_off k2).trans k3).trans (k4.trans k5)) (w4.trans (s4.trans (z3.trans x4)))
          | some S' =>
            obtain ⟨m5, w1, w2, w3, w4⟩ := tS S' htk
            obtain ⟨h5, k5⟩ := h4.set hok hj e4' w3 w2
            have := fin _ m5 (upS s j S') (pre _ _ w1) h5 (upS_ok hok (takeS_ok hS hb.1 rfl c2 htk)) rfl (((offq_off k2).trans k3).trans (k4.trans k5)) (w4.trans (s4.trans (z3.trans x4)))
            rw [(slot_c hj).2]
            exact this
        · rw [if_neg c2]
          refine fin _ m2 s ?_ h2 hok rfl (offq_off k2) x4
          unfold F_X8_takenBy f_X8_takenBy
          rw [hpre]
          simp only [bd_e]
          rw [show fltS (.inr (p, c, l)) = 0 from rfl, if_pos (show nI 0 = (0 : Int32) from rfl), tape_o h2, bind_e, v2, g45.1, if_pos ((nI_leI (by omega) (by omega)).mpr c1), reader_o h2, bind_e, g45.2, y4, if_neg (fun z => c2 (by have := (last_cmp hS _).mp z; rw [nI_toInt (by omega)] at this; exact this))]
      · rw [if_neg c1]
        refine fin _ m2 s ?_ h2 hok rfl (offq_off k2) x4
        unfold F_X8_takenBy f_X8_takenBy
        rw [hpre]
        simp only [bd_e]
        rw [show fltS (.inr (p, c, l)) = 0 from rfl, if_pos (show nI 0 = (0 : Int32) from rfl), tape_o h2, bind_e, v2, g45.1, if_neg (fun z => c1 ((nI_leI (by omega) (by omega)).mp z))]
theorem takes_st {s : St} (hok : stOk s) (x : Int32) : stOk (nTakes s x).2 := by
  have hok0 : stOk (s.1, s.2.1, 0) := ⟨hok.1, Nat.zero_le _, fun i hi => absurd hi (Nat.not_lt_zero _)⟩
  unfold nTakes
  cases hs : sl s x with
  | none => exact hok
  | some S =>
    dsimp only
    cases hr : exS s.2.1 s.2.2 with
    | inl e => exact hok0
    | inr r =>
      obtain ⟨p, c, l⟩ := r
      dsimp only
      split
      · split
        · rename_i c2
          cases htk : takeS S (tpB s c.1) with
          | none => exact hok0
          | some S' => exact upS_ok hok0 (takeS_ok (sl_ok hok hs) (tpB_ok hok hr).1 rfl c2 htk)
        · exact hok0
      · exact hok0
