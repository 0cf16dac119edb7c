/-! ===== calls of the class: join, ways, dearest, where, takes ===== -/
theorem zip_sub : ∀ (n : Nat) (A C : List Pt) (y : Ent), y ∈ zipP n A C → y.1 ∈ A ∨ y.1 ∈ C
  | 0, A, C, y, h => by simp [zipP] at h
  | n + 1, A, C, y, h => by
    cases hst : stP A C with
    | none => rw [zip_none hst] at h; simp at h
    | some r =>
      obtain ⟨q, b1, b2, al, A', C'⟩ := r
      rw [zip_some hst] at h
      have hsub : (∀ z, z ∈ A' → z ∈ A) ∧ (∀ z, z ∈ C' → z ∈ C) ∧ (q ∈ A ∨ q ∈ C) := by
        unfold stP at hst
        cases A with
        | nil => cases C with
          | nil => cases hst
          | cons c C => cases hst; exact ⟨fun z hz => hz, fun z hz => by simp [hz], Or.inr (by simp)⟩
        | cons a A => cases C with
          | nil => cases hst; exact ⟨fun z hz => by simp [hz], fun z hz => hz, Or.inl (by simp)⟩
          | cons c C =>
            dsimp only at hst
            split at hst
            · cases hst; exact ⟨fun z hz => by simp [hz], fun z hz => hz, Or.inl (by simp)⟩
            · split at hst
              · cases hst; exact ⟨fun z hz => hz, fun z hz => by simp [hz], Or.inr (by simp)⟩
              · cases hst; exact ⟨fun z hz => by simp [hz], fun z hz => by simp [hz], Or.inl (by simp)⟩
      rcases List.mem_cons.mp h with rfl | h
      · exact hsub.2.2
      · rcases zip_sub n A' C' y h with z | z
        · exact Or.inl (hsub.1 _ z)
        · exact Or.inr (hsub.2.1 _ z)
theorem join_loop {K : Kn} {B j3 : Nat} {s : St} {A C : List Pt} {x1 x2 : Int32} (hok : stOk s) (hj3 : j3 < 4) (hA : ∀ q ∈ A, q.1 ≤ 2000000000) (hC : ∀ q ∈ C, q.1 ≤ 2000000000) (sA : srt A) (sC : srt C) {a i5 : Nat} (ha5 : i5 < 5 ∧ a = B + 2 + 38 * i5) : ∀ (f n : Nat) (m : Mem) (i j : Nat) (S : Sr), n < f → n < 100000 → RX K m B s → gR m B 1 = some a → seR K m a S → srOk S → (∀ q ∈ entP (zipP n (A.drop i) (C.drop j)), S.2.1 < (q.1 : Int)) → prR K m (B + 198) (B + 192) (B + 195) 11812 i j A C →
    ∃ m', f_X8_join_84 K B x1 x2 (nI j3) f m (nI n) = some ((match packL S (entP (zipP n (A.drop i) (C.drop j))) with
      | none => (-4 : Int32)
      | some S' => nI S'.2.2.2.length), m') ∧ RX K m' B (match packL S (entP (zipP n (A.drop i) (C.drop j))) with
      | none => s
      | some S' => upS s j3 S') ∧ eqOn (off B 205) m m' ∧ szm m' = szm m
  | 0, _, _, _, _, _, h, _, _, _, _, _, _, _ => absurd h (Nat.not_lt_zero _)
  | f + 1, n, m, i, j, S, hn, hn2, h, ha, hS, hSo, hlt, hp => by
    have unf : f_X8_join_84 K B x1 x2 (nI j3) (f + 1) m (nI n) = f_X8_join_84B K B x1 x2 (nI j3) (f_X8_join_84 K B x1 x2 (nI j3) f) m (nI n) := rfl
    rw [unf]
    unfold f_X8_join_84B f_X8_join_132
    have fin : ∃ m', ((F_X8_useSpare K m B (nI j3)).bind fun q1 => some (q1.1, q1.2)) = some (nI S.2.2.2.length, m') ∧ RX K m' B (upS s j3 S) ∧ eqOn (off B 205) m m' ∧ szm m' = szm m := by
      obtain ⟨m', e1, e2, e3, e4⟩ := useSpare_ok hok h ha hS hSo hj3
      rw [e1, bind_e]
      exact ⟨m', rfl, e2, e3.mono (fun q hq => by unfold off at hq ⊢; omega), e4⟩
    cases n with
    | zero =>
      rw [if_pos (by decide)]
      exact fin
    | succ n =>
      rw [if_neg (nI_nle (by omega) (by omega)), pairs_o h, bind_e]
      have hadv := advance_ok hp hA hC
      cases hst : stP (A.drop i) (C.drop j) with
      | none =>
        rw [hst] at hadv
        rw [hadv, bind_e, zip_none hst]
        dsimp only
        rw [if_pos rfl]
        exact fin
      | some r =>
        obtain ⟨q, b1, b2, al, A', C'⟩ := r
        rw [hst] at hadv
        obtain ⟨s1, s2, s3, s4, s5, s6, s7, s8, s9, s10⟩ := stP_spec (srt_drop sA i) (srt_drop sC j) hst
        obtain ⟨m1, i', j', a1, a2, a3, a4, ⟨n4, n5, n6, n7, n8⟩, a6, a7⟩ := hadv
        obtain ⟨k1, k2⟩ := h.prs hok a6 a2.1 a2.2.1
        rw [a1, bind_e]
        dsimp only
        rw [if_neg (by decide)]
        rw [zip_some hst] at hlt ⊢
        have e : entP ((q, b1, b2, al) :: zipP n A' C') = q :: entP (zipP n A' C') := rfl
        rw [e] at hlt ⊢
        rw [packL_cons]
        have hqlt := hlt q (by simp)
        have hq2 : q.1 ≤ 2000000000 := by
          rcases s5 with z | z
          · exact hA q (List.mem_of_mem_drop z)
          · exact hC q (List.mem_of_mem_drop z)
        have oc : ∀ q, q ≠ B + 198 → offp (B + 198) q := fun q hq => hq
        have hKa : K a = some (.inl 6) := by obtain ⟨π, q, -⟩ := hS; exact q.1.1
        have ha1 : gR m1 B 1 = some a := (a6.R (oc _ (by omega))).trans ha
        have hS1 : seR K m1 a S := seR.on hSo.2.2.2.2.2.2.2.1 hS a6 (fun q g1 g2 => oc _ (by omega))
        rw [ldO_n ha1 hKa, bind_e, pairs_o k1]
        simp only [bind_e]
        rw [n7, n8]
        obtain ⟨pN, pS⟩ := put_ok (v := q.2) hS1 hSo hqlt hq2
        cases hput : putS S q.1 q.2 with
        | none =>
          obtain ⟨m2, f1, f2, f3, f4⟩ := pN hput
          rw [f1, bind_e]
          dsimp only
          rw [if_neg (by decide)]
          obtain ⟨π, f2', -⟩ := f2
          obtain ⟨g1, g2⟩ := k1.spare hok ha1 f3 ⟨π, f2'⟩
          exact ⟨m2, rfl, g1, (offq_off k2).trans g2, f4.trans a7⟩
        | some S1 =>
          obtain ⟨m2, f1, f2, f3, f4⟩ := pS S1 hput
          obtain ⟨p1, p2, -, -⟩ := putS_pos hSo hqlt hq2 hput
          rw [f1, bind_e]
          dsimp only
          have h16 := p2.2.2.2.2.2.2.2.1
          rw [if_pos (nI_pos' (by omega))]
          simp only [bd_e]
          rw [show nI (n + 1) + (-1 : Int32) = nI n from pk_m1 n]
          have f2'' := f2
          obtain ⟨π, f2', -⟩ := f2
          obtain ⟨g1, g2⟩ := k1.spare hok ha1 f3 ⟨π, f2'⟩
          have oB : ∀ q, (q < B + 2 ∨ B + 192 ≤ q) → off a 38 q := fun q hq => by unfold off; omega
          obtain ⟨m3, r1, r2, r3, r4⟩ := join_loop (x1 := x1) (x2 := x2) hok hj3 hA hC sA sC ha5 f n m2 i' j' S1 (by omega) (by omega) g1 ((f3.R (oB B (by omega))).trans ha1) f2'' p2 (fun z hz => by
            rw [a3, a4] at hz
            rw [p1]
            obtain ⟨y, hy, rfl⟩ := List.mem_map.mp hz
            have : y.1 ∈ A' ∨ y.1 ∈ C' := by
              have := zip_sub n A' C' y hy
              exact this
            rcases this with hz | hz
            · have := (s3 _ hz).1; omega
            · have := (s4 _ hz).1; omega) (a2.on f3 (oB _ (by omega)) (oB _ (by omega)) (oB _ (by omega)) (oB _ (by omega)) (oB _ (by omega)) (oB _ (by omega)) (oB _ (by omega)))
          rw [a3, a4] at r1 r2
          exact ⟨m3, r1, r2, ((offq_off k2).trans g2).trans r3, r4.trans (f4.trans a7)⟩
theorem zipA_srt {S T : Sr} (hS : srOk S) (hT : srOk T) : srt (entP (zipA S T)) := (zip_spec _ _ _ (Nat.le_refl _) (allP_spec hS).1 (allP_spec hT).1).1
theorem zipA_le {S T : Sr} (hS : srOk S) (hT : srOk T) : ∀ q ∈ entP (zipA S T), q.1 ≤ 2000000000 := fun q hq => by
  rcases ((zip_spec _ _ _ (Nat.le_refl _) (allP_spec hS).1 (allP_spec hT).1).2 q).mp hq with h | ⟨h, -⟩
  · exact allP_le hS q h
  · exact allP_le hT q h
def nJoin (s : St) (x y t : Int32) : Int32 × St := match sl s x, sl s y with
  | some S, some T => if slt t = true then (if sndL S.2.2.2 = true then (if sndL T.2.2.2 = true then nPack s t S.1 (entP (zipA S T)) (fun S' => nI S'.2.2.2.length) else (-6, s)) else (-6, s)) else (-2, s)
  | _, _ => (-2, s)
theorem join_ok {K : Kn} {m : Mem} {B : Nat} {s : St} (hok : stOk s) (h : RX K m B s) (x y t : Int32) : okX K m B (F_X8_join K m B x y t) (nJoin s x y t).1 (nJoin s x y t).2 := by
  unfold F_X8_join f_X8_join nJoin
  rcases isNone_c h x with ⟨hs, hn⟩ | ⟨S, hs, hn⟩
  · rw [hn, hs, bind_e, if_neg (by decide)]; exact okX.same h
  rcases isNone_c h y with ⟨ht, hm⟩ | ⟨T, ht, hm⟩
  · rw [hn, hs, ht, bind_e, if_pos rfl, hm, bind_e, if_neg (by decide)]; exact okX.same h
  · rw [hn, hs, ht, bind_e, if_pos rfl, hm, bind_e, if_pos rfl, isSlot_b, bind_e]
    dsimp only
    by_cases ct : slt t = true
    · rw [if_pos ct, if_neg (by decide), if_pos ct]
      obtain ⟨k, hk, rfl, hkc⟩ := slot_nI (of_decide_eq_true ct)
      obtain ⟨j, a, hj, rfl, hsj, hS, e1, e2, ⟨π, e3, e3'⟩, e4, e5⟩ := h.at2 hok hs
      obtain ⟨j', a', hj', rfl, hsj', hT, f1, f2, ⟨π', f3, f3'⟩, f4, f5⟩ := h.at2 hok ht
      rw [e1, bind_e, e2, bind_e, broken_ok e3 e3' hS, bind_e]
      by_cases cb : sndL S.2.2.2 = true
      · rw [if_pos ((brk_zero hS).mpr cb), if_pos cb, bind_e, f2, bind_e, broken_ok f3 f3' hT, bind_e]
        by_cases cb2 : sndL T.2.2.2 = true
        · rw [if_pos ((brk_zero hT).mpr cb2), if_pos cb2]
          obtain ⟨m1, g1, g2, g3, g4, g5, g6⟩ := gatherBoth_ok hok h hs ht
          obtain ⟨ar, r1, r2, r3⟩ := room4 hok g4 hs
          obtain ⟨a4, π4, i4, ha4, hsp, hi4, hai4, hKa4⟩ := g4.sp
          rw [g1, bind_e, ldO_n ha4 hKa4, bind_e, r1, bind_e, r2, bind_e, r3]
          obtain ⟨m2, s1, s2, s3, s4, s5⟩ := start_ok (room := S.1) hsp
          rw [s1, bind_e]
          obtain ⟨k1, k2⟩ := g4.spare hok ha4 s4 ⟨π4, s2⟩
          have oB : ∀ q, (q < B + 2 ∨ B + 192 ≤ q) → off a4 38 q := fun q hq => by unfold off; omega
          obtain ⟨m3, p1, p2, p3, p4, p5⟩ := pbegin_ok hok k1 (g2.on s4 (oB _ (by omega)) (oB _ (by omega)) (oB _ (by omega))) (g3.on s4 (oB _ (by omega)) (oB _ (by omega)) (oB _ (by omega)))
          rw [pairs_o k1, bind_e, p1, bind_e]
          simp only [bd_e]
          have l1 := pt_len g2
          have l2 := pt_len g3
          have oc : ∀ q, q ≠ B + 198 → offp (B + 198) q := fun q hq => hq
          have hnew : seR K m3 a4 (S.1, -1, [], []) := seR.on (Nat.zero_le _) ⟨π4, s2, s3⟩ p4 (fun q g1 g2 => oc _ (by omega))
          obtain ⟨m4, q1, q2, q3, q4⟩ := join_loop (x1 := nI j) (x2 := nI j') hok hk (allP_le hS) (allP_le hT) (allP_spec hS).1 (allP_spec hT).1 ⟨hi4, hai4⟩ FU ((allP S).length + (allP T).length) m3 0 0 (S.1, -1, [], []) (by rw [FU_e]; omega) (by omega) p3 ((p4.R (oc _ (by omega))).trans ((s4.R (oB B (by omega))).trans ha4)) hnew (srOk_new hS.1 hS.2.1) (fun q _ => by show (-1 : Int) < q.1; omega) p2
          rw [List.drop_zero, List.drop_zero] at q1 q2
          rw [q1]
          have eo : eqOn (off B 205) m2 m3 := p4.mono (fun q hq => by unfold off at hq; show q ≠ B + 198; omega)
          refine ⟨m4, ?_, ?_, (((offq_off g5).trans k2).trans eo).trans q3, q4.trans (p5.trans (s5.trans g6))⟩
          · unfold nPack packA zipA; cases packL (S.1, -1, [], []) (entP (zipP ((allP S).length + (allP T).length) (allP S) (allP T))) <;> rfl
          · unfold nPack packA zipA
            rw [hkc]
            cases hpk : packL (S.1, -1, [], []) (entP (zipP ((allP S).length + (allP T).length) (allP S) (allP T))) <;> rw [hpk] at q2 <;> exact q2
        · rw [if_neg (fun z => cb2 ((brk_zero hT).mp z)), if_neg cb2]; exact okX.same h
      · rw [if_neg (fun z => cb ((brk_zero hS).mp z)), if_neg cb]; exact okX.same h
    · rw [if_neg ct, if_neg ct, if_pos rfl]; exact okX.same h
theorem join_st {s : St} (hok : stOk s) (x y t : Int32) : stOk (nJoin s x y t).2 := by
  unfold nJoin
  cases hs : sl s x with
  | none => exact hok
  | some S =>
    cases ht : sl s y with
    | none => exact hok
    | some T =>
      have hS := sl_ok hok hs
      have hT := sl_ok hok ht
      dsimp only
      split
      · split
        · split
          · exact nPack_st hok hS.1 hS.2.1 (zipA_srt hS hT) (zipA_le hS hT)
          · exact hok
        · exact hok
      · exact hok
/-- ways -/
def wayF (w : Int32) (x : Int32) (_ : Nat) (b : Bk) : Int32 := if sndB b = true then x + cwA w (ptsB b) else x
def aWays (s : St) (x w : Int32) : Int32 := match sl s x with
  | none => -2
  | some S => if w < 0 then -2 else if w ≤ (7 : Int32) then foldI (wayF w) 0 0 S.2.2.2 else -2
theorem RX.rdr {K : Kn} {m m' : Mem} {B : Nat} {s : St} (hok : stOk s) (h : RX K m B s) (e : eqOn (offr (B + 199)) m m') (hr : rdS K m' (B + 199)) : RX K m' B s ∧ eqOn (offq B) m m' := by
  have hr0 := h.2.2.1
  have oc : ∀ q, q ≠ B + 199 → q ≠ B + 200 → offr (B + 199) q := fun q h1 h2 => ⟨h1, h2⟩
  have eq : eqOn (offq B) m m' := e.mono (fun q hq => by unfold offq at hq; exact ⟨by omega, by omega⟩)
  exact ⟨h.q hok eq ⟨hr, hr0.2.1.on e (oc _ (by omega) (by omega)), hr0.2.2.1.on e (oc _ (by omega) (by omega)), (e.R (oc _ (by omega) (by omega))).trans hr0.2.2.2.1, (e.R (oc _ (by omega) (by omega))).trans hr0.2.2.2.2.1, (e.R (oc _ (by omega) (by omega))).trans hr0.2.2.2.2.2⟩, eq⟩
theorem reader_o {K : Kn} {m : Mem} {B : Nat} {s : St} (h : RX K m B s) : ldO K m B 5 5 = some (B + 199) := ldO_n h.2.1.2.2.2.2.1 h.2.2.1.1.2.1
theorem ways_ok {K : Kn} {m : Mem} {B : Nat} {s : St} (hok : stOk s) (h : RX K m B s) (x w : Int32) : okX K m B (F_X8_ways K m B x w) (aWays s x w) s := by
  unfold F_X8_ways f_X8_ways aWays
  rcases isNone_c h x with ⟨hs, hn⟩ | ⟨S, hs, hn⟩
  · rw [hn, hs, bind_e, if_neg (by decide)]; exact okX.same h
  · rw [hn, hs, bind_e, if_pos rfl]
    dsimp only
    by_cases c1 : w < 0
    · rw [if_pos c1, if_pos c1]; exact okX.same h
    rw [if_neg c1, if_neg c1]
    by_cases c2 : w ≤ (7 : Int32)
    · rw [if_pos c2, if_pos c2]
      obtain ⟨j, a, hj, rfl, hsj, hS, e1, e2, ⟨π, e3, e3'⟩, e4, ⟨i5, hi5, ea⟩⟩ := h.at2 hok hs
      rw [e1, bind_e, e2, bind_e]
      have h16 := hS.2.2.2.2.2.2.2.1
      have := scanM S.2.2.2 0 (fun n m (y : Int32) i => f_X8_ways_34 K B (nI j) w n m a y (nI i)) (fun m _ => RX K m B s ∧ seS K m a π ∧ seD K m a π S) (fun m m' => RX K m B s → (RX K m' B s ∧ eqOn (offq B) m m' ∧ szm m' = szm m)) (fun m h => ⟨h, eqOn.refl m, rfl⟩) (fun m m1 m2 h1 h2 h => ⟨(h2 (h1 h).1).1, (h1 h).2.1.trans (h2 (h1 h).1).2.1, (h2 (h1 h).1).2.2.trans (h1 h).2.2⟩) (wayF w) (fun y => y) ?_ ?_ FU 0 m (0 : Int32) (Nat.le_refl _) (by omega) (by rw [FU_e]; omega) ⟨h, e3, e3'⟩
      · obtain ⟨m2, r1, r2⟩ := this
        obtain ⟨g1, g2, g3⟩ := r2 h
        rw [List.drop_zero] at r1
        exact ⟨m2, r1, g1, offq_off g2, g3⟩
      · intro n m1 y i b hi hb ⟨q1, q2, q3⟩
        obtain ⟨b1, b2, b3, b4, b5⟩ := blk_at q2 q3 hS hb
        have hπ := (q2.2.2.2.2.2.2.1 i (by have := (List.getElem?_eq_some_iff.mp hb).1; omega)).1
        show ∃ m', f_X8_ways_34B K B (nI j) w (f_X8_ways_34 K B (nI j) w n) m1 a y (nI i) = _ ∧ _
        unfold f_X8_ways_34B f_X8_ways_75
        rw [if_neg b1, b2, bind_e, b3, bind_e]
        simp only [bd_e, nI_1]
        unfold wayF
        by_cases c : sndB b = true
        · rw [if_pos ((wrong_ok b4 b5).mpr c), reader_o q1, bind_e, if_pos c]
          have o1 : offr (B + 199) (a + 6 + 2 * π i) := ⟨by omega, by omega⟩
          have o2 : offr (B + 199) (a + 6 + 2 * π i + 1) := ⟨by omega, by omega⟩
          obtain ⟨m2, w1, w2, w3, w4⟩ := countWay_ok q1.2.2.1.1 b4 b5 c o1 o2 w
          rw [w1, bind_e]
          obtain ⟨k1, k2⟩ := q1.rdr hok w3 w2
          have hin : insr a 38 (offr (B + 199)) := fun q g1 g2 => ⟨by omega, by omega⟩
          exact ⟨m2, rfl, ⟨k1, q2.on w3 hin, q3.on h16 q2 w3 hin⟩, fun _ => ⟨k1, k2, w4⟩⟩
        · rw [if_neg (fun z => c ((wrong_ok b4 b5).mp z)), if_neg c]
          exact ⟨m1, rfl, ⟨q1, q2, q3⟩, fun hh => ⟨hh, eqOn.refl m1, rfl⟩⟩
      · intro n m1 y i hi hi2 ⟨q1, q2, q3⟩
        show ∃ m', f_X8_ways_34B K B (nI j) w (f_X8_ways_34 K B (nI j) w n) m1 a y (nI i) = _ ∧ _
        unfold f_X8_ways_34B
        rw [if_pos (by rw [show i = S.2.2.2.length by omega]; exact blk_end q3 hS)]
        exact ⟨m1, rfl, fun hh => ⟨hh, eqOn.refl m1, rfl⟩⟩
    · rw [if_neg c2, if_neg c2]; exact okX.same h
