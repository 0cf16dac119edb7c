/-! ===== calls of the class: late, seals, drops, copy, the tape, damage ===== -/
def nLate (s : St) (x t : Int32) (v : Int64) : Int32 × St := match sl s x with
  | none => (-2, s)
  | some S => if stm t = true then (if t.toInt ≤ S.2.1 then (if hasA S.2.2.1 t.toNatClampNeg = true ∨ S.2.2.1.length < 20 then (nI (insA S.2.2.1 t.toNatClampNeg v).length, upS s x.toNatClampNeg (S.1, S.2.1, insA S.2.2.1 t.toNatClampNeg v, S.2.2.2)) else (-4, s)) else (-5, s)) else (-2, s)
theorem hasA_iff (l : List Pt) (t : Nat) : hasA l t = true ↔ (l[ff t l]?).map Prod.fst = some t := by unfold hasA; exact beq_iff_eq
theorem insA_len {l : List Pt} {t : Nat} {v : Int64} {n : Nat} (h : hasA l t = true ∨ l.length < n) (hl : l.length ≤ n) : (insA l t v).length ≤ n := by
  have hff := ff_le t l
  unfold insA
  by_cases c : (l[ff t l]?).map Prod.fst = some t
  · rw [if_pos c]
    have hlt : ff t l < l.length := by
      by_cases hc : ff t l < l.length
      · exact hc
      · rw [List.getElem?_eq_none (by omega)] at c; cases c
    simp; omega
  · rw [if_neg c]
    have := h.resolve_left (fun z => c ((hasA_iff l t).mp z))
    simp; omega
theorem late_lt {S : Sr} (hS : srOk S) : ∀ q ∈ S.2.2.1, q.1 ≤ 2000000000 := fun q hq => by
  have h1 := hS.2.2.2.2.2.2.1 q hq
  have h2 := hS.2.2.2.1
  omega
theorem late_srOk {S : Sr} (hS : srOk S) {t : Nat} {v : Int64} (ht : (t : Int) ≤ S.2.1) (h : hasA S.2.2.1 t = true ∨ S.2.2.1.length < 20) : srOk (S.1, S.2.1, insA S.2.2.1 t v, S.2.2.2) := by
  obtain ⟨h1, h2, h3, h4, h5, h6, h7, h8, h9, h10⟩ := hS
  obtain ⟨i1, i2⟩ := insA_spec h6 t v
  refine ⟨h1, h2, h3, h4, insA_len h h5, i1, fun q hq => ?_, h8, h9, h10⟩
  rcases (i2 q).mp hq with rfl | ⟨hq, -⟩
  · exact ht
  · exact h7 q hq
theorem late_ok {K : Kn} {m : Mem} {B : Nat} {s : St} (hok : stOk s) (h : RX K m B s) (x t : Int32) (v : Int64) : okX K m B (F_X8_late K m B x t v) (nLate s x t v).1 (nLate s x t v).2 := by
  unfold F_X8_late f_X8_late nLate
  rcases isNone_c h x with ⟨hs, hn⟩ | ⟨S, hs, hn⟩
  · rw [hn, hs, bind_e, if_neg (by decide)]; exact okX.same h
  · rw [hn, hs, bind_e, if_pos rfl, isStamp_x, bind_e]
    dsimp only
    by_cases ct : stm t = true
    · rw [if_pos ct, if_neg (by decide)]
      obtain ⟨j, a, hj, rfl, hsj, hS, e1, e2, ⟨π, e3, e3'⟩, e4, e5⟩ := h.at2 hok hs
      obtain ⟨n, hn2, rfl, hti⟩ := stm_nI ct
      rw [e1, bind_e, e2, bind_e, e3'.2.2.1, if_pos ct]
      have cle : nI n ≤ iZ S.2.1 ↔ (nI n).toInt ≤ S.2.1 := by
        rw [fa_le, iZ_toInt (by have := hS.2.2.1; omega) (by have := hS.2.2.2.1; omega)]
      by_cases cl : (nI n).toInt ≤ S.2.1
      · rw [if_pos (cle.mpr cl), if_pos cl, nI_clamp (by omega), (slot_c hj).2, ldO_n e3.2.2.1 e3.1.2.2.1, bind_e]
        rw [hti] at cl
        obtain ⟨iY, iN⟩ := insert_ok e3'.2.2.2.2.1 (late_lt hS) hn2 v
        by_cases cc : hasA S.2.2.1 n = true ∨ S.2.2.1.length < 20
        · rw [if_pos cc]
          obtain ⟨m', f1, f2, f3, f4⟩ := iY (cc.elim (fun z => Or.inl ((hasA_iff _ _).mp z)) Or.inr)
          rw [f1, bind_e]
          dsimp only
          rw [if_neg (by decide)]
          have s1 := seS_late e3 f3 f2.1 f2.2.1
          have eo : eqOn (off a 38) m m' := f3.mono (fun q hq => by unfold off at hq ⊢; omega)
          have pa : off (a + 2) 3 a := by unfold off; omega
          have d1 : seD K m' a π (S.1, S.2.1, insA S.2.2.1 n v, S.2.2.2) := by
            obtain ⟨d1, d2, d3, d4, d5, d6, d7⟩ := e3'
            refine ⟨(f3.I pa).trans d1, (f3.I pa).trans d2, (f3.I pa).trans d3, (f3.I pa).trans d4, f2, fun k b hk => ?_, fun b p c l g1 g2 g3 => (d7 b p c l g1 g2 g3).on f3 (by unfold off; omega)⟩
            have hk : S.2.2.2[k]? = some b := hk
            have hk16 : k < 16 := by have := (List.getElem?_eq_some_iff.mp hk).1; have := hS.2.2.2.2.2.2.2.1; omega
            have := (e3.2.2.2.2.2.2.1 k hk16).1
            exact (d6 k b hk).on f3 (by unfold off; omega) (by unfold off; omega)
          obtain ⟨g1, g2⟩ := h.set hok hj e4 eo ⟨π, s1, d1⟩
          rw [ldO_n s1.2.2.1 s1.1.2.2.1, bind_e, f2.2.2.2.2.2.1]
          exact ⟨m', rfl, g1, g2, f4⟩
        · rw [if_neg cc, iN (fun z => cc (z.elim (fun w => Or.inl ((hasA_iff _ _).mpr w)) Or.inr)), bind_e]
          dsimp only
          rw [if_pos rfl]; exact okX.same h
      · rw [if_neg (fun z => cl (cle.mp z)), if_neg cl]; exact okX.same h
    · rw [if_neg ct, if_neg ct, if_pos rfl]; exact okX.same h
theorem late_st {s : St} (hok : stOk s) (x t : Int32) (v : Int64) : stOk (nLate s x t v).2 := by
  unfold nLate
  cases hs : sl s x with
  | none => exact hok
  | some S =>
    dsimp only
    split
    · rename_i ct
      obtain ⟨n, hn2, rfl, hti⟩ := stm_nI ct
      split
      · rename_i cl
        rw [hti] at cl
        rw [nI_clamp (by omega)]
        split
        · rename_i cc
          exact upS_ok hok (late_srOk (sl_ok hok hs) cl cc)
        · exact hok
      · exact hok
    · exact hok
/-- seals: the open block, if there is one -/
def nSeals (s : St) (x : Int32) : Int32 × St := match sl s x with
  | none => (-2, s)
  | some S => match S.2.2.2.getLast? with
    | none => (-5, s)
    | some b => if b.2.2.1 = true then (-5, s) else (nI (b.2.1 + 1), upS s x.toNatClampNeg (S.1, S.2.1, S.2.2.1, clL S.2.2.2))
theorem clL_srOk {S : Sr} (hS : srOk S) : srOk (S.1, S.2.1, S.2.2.1, clL S.2.2.2) := by
  obtain ⟨h1, h2, h3, h4, h5, h6, h7, h8, h9, h10⟩ := hS
  obtain ⟨g1, g2⟩ := clL_ok h9 h10
  exact ⟨h1, h2, h3, h4, h5, h6, h7, by show (clL S.2.2.2).length ≤ 16; rw [clL_len]; exact h8, fun b hb => ⟨(g1 b hb).1, (g1 b hb).2.1⟩, g2⟩
theorem seals_ok {K : Kn} {m : Mem} {B : Nat} {s : St} (hok : stOk s) (h : RX K m B s) (x : Int32) : okX K m B (F_X8_seals K m B x) (nSeals s x).1 (nSeals s x).2 := by
  unfold F_X8_seals f_X8_seals nSeals
  rcases isNone_c h x with ⟨hs, hn⟩ | ⟨S, hs, hn⟩
  · rw [hn, hs, bind_e, if_neg (by decide)]; exact okX.same h
  · rw [hn, hs, bind_e, if_pos rfl]
    obtain ⟨j, a, hj, rfl, hsj, hS, e1, e2, ⟨π, e3, e3'⟩, e4, e5⟩ := h.at2 hok hs
    have h16 := hS.2.2.2.2.2.2.2.1
    rw [e1, bind_e, e2, bind_e, openBlock_ok e3 e3' h16, bind_e]
    dsimp only
    rcases last_cases S.2.2.2 with hb | ⟨bl0, b, hb⟩
    · rw [hb]; exact okX.same h
    · have hlen : S.2.2.2.length = bl0.length + 1 := by rw [hb]; simp
      have hgl : S.2.2.2.getLast? = some b := by rw [hb, List.getLast?_concat]
      have hbm := (hS.2.2.2.2.2.2.2.2.1 b (by rw [hb]; simp)).1
      rw [hgl]
      dsimp only
      by_cases hse : b.2.2.1 = true
      · rw [if_pos hse, caseO_n, if_pos hse]; exact okX.same h
      · have hse' : b.2.2.1 = false := by cases hh : b.2.2.1 <;> simp_all
        rw [if_neg hse, caseO_v, if_neg hse, hlen, Nat.add_sub_cancel, (slot_c hj).2]
        have hbk := e3'.2.2.2.2.2.1 bl0.length b (by rw [hb]; exact get_last bl0 b)
        rw [gd_t hbk.2.1]
        obtain ⟨m', f1, f2, f3, f4⟩ := close_bk hbk hbm hse'
        have hπ := (e3.2.2.2.2.2.2.1 bl0.length (by omega)).1
        rw [f1, bind_e, f2.2.2.2.2.1]
        have s1 := seS_blk e3 hπ f3 f2.1
        have eo : eqOn (off a 38) m m' := f3.mono (fun q hq => by unfold off at hq ⊢; omega)
        have pa : off (a + 6 + 2 * π bl0.length) 2 a := by unfold off; omega
        have d1 : seD K m' a π (S.1, S.2.1, S.2.2.1, clL S.2.2.2) := by
          obtain ⟨d1, d2, d3, d4, d5, d6, d7⟩ := e3'
          refine ⟨(f3.I pa).trans d1, (f3.I pa).trans d2, (f3.I pa).trans d3, ?_, d5.on f3 (by unfold off; omega) (by unfold off; omega) (by unfold off; omega), ?_, fun b' p c l g1 g2 g3 => ?_⟩
          · rw [f3.I pa, d4]; show _ = nI (clL S.2.2.2).length; rw [clL_len]
          · show seB K m' a π (clL S.2.2.2)
            rw [hb, clL_f hse']
            have hpre : seB K m a π bl0 := by
              have d6' : seB K m a π S.2.2.2 := d6
              rw [hb] at d6'
              exact seB_pre d6'
            exact seB_snoc e3 (by omega) hpre f3 f2
          · have g1 : (clL S.2.2.2).getLast? = some b' := g1
            rw [hb, clL_f hse', List.getLast?_concat] at g1
            cases g1
            cases g2
        obtain ⟨g1, g2⟩ := h.set hok hj e4 eo ⟨π, s1, d1⟩
        exact ⟨m', rfl, g1, g2, f4⟩
theorem seals_st {s : St} (hok : stOk s) (x : Int32) : stOk (nSeals s x).2 := by
  unfold nSeals
  cases hs : sl s x with
  | none => exact hok
  | some S =>
    dsimp only
    split
    · exact hok
    · split
      · exact hok
      · exact upS_ok hok (clL_srOk (sl_ok hok hs))
def nDrops (s : St) (x k : Int32) : Int32 × St := match sl s x with
  | none => (-2, s)
  | some S => if k < 0 then (-2, s) else if k.toNatClampNeg < S.2.2.2.length then (nI (S.2.2.2.length - 1), upS s x.toNatClampNeg (dropS S k.toNatClampNeg)) else (-2, s)
theorem drops_ok {K : Kn} {m : Mem} {B : Nat} {s : St} (hok : stOk s) (h : RX K m B s) (x k : Int32) : okX K m B (F_X8_drops K m B x k) (nDrops s x k).1 (nDrops s x k).2 := by
  obtain ⟨hN, hS⟩ := blockOf_ok hok h x k
  unfold F_X8_drops f_X8_drops nDrops
  cases hb : bko s x k with
  | none =>
    rw [hN hb, bind_e, caseO_n]
    unfold bko at hb
    cases hs : sl s x with
    | none => exact okX.same h
    | some S =>
      rw [hs] at hb
      dsimp only at hb ⊢
      by_cases ck : k < 0
      · rw [if_pos ck]; exact okX.same h
      · rw [if_neg ck] at hb ⊢
        rw [if_neg (by have := List.getElem?_eq_none_iff.mp hb; omega)]; exact okX.same h
  | some b =>
    obtain ⟨S, j, n, a, π, hs, rfl, hj, hSo, rfl, hn, hget, hal, hai, e3, e3', f1, q1, q2, hπ⟩ := hS b hb
    have h16 := hSo.2.2.2.2.2.2.2.1
    rw [f1, bind_e, caseO_v, gd_t q1.2.1, hs]
    dsimp only
    rw [if_neg (nI_pos (by omega)), nI_clamp (by omega), if_pos hn, ldA_n h.2.1.1 h.1.2.1, bind_e, hal, bind_e, (slot_c hj).2]
    obtain ⟨j', a', hj', hjj, hsj, -, -, hal', -, hgr, -⟩ := h.at2 hok hs
    have : j' = j := (nI_eq (by omega) (by omega)).mp hjj.symm
    subst this
    rw [hal] at hal'
    cases hal'
    obtain ⟨m', r1, r2, r3, r4⟩ := remove_ok ⟨π, e3, e3'⟩ hSo hn
    have hlen : (dropS S n).2.2.2.length = S.2.2.2.length - 1 := List.length_eraseIdx_of_lt hn
    rw [r1, bind_e, hlen]
    obtain ⟨g1, g2⟩ := h.set hok hj hgr r3 r2
    exact ⟨m', rfl, g1, g2, r4⟩
theorem drops_st {s : St} (hok : stOk s) (x k : Int32) : stOk (nDrops s x k).2 := by
  unfold nDrops
  cases hs : sl s x with
  | none => exact hok
  | some S =>
    dsimp only
    split
    · exact hok
    · split
      · exact upS_ok hok (dropS_ok (sl_ok hok hs) _)
      · exact hok
def nCopy (s : St) (x y : Int32) : Int32 × St := match sl s x with
  | none => (-2, s)
  | some S => if slt y = true then (0, upS s y.toNatClampNeg S) else (-2, s)
theorem copy_ok {K : Kn} {m : Mem} {B : Nat} {s : St} (hok : stOk s) (h : RX K m B s) (x y : Int32) : okX K m B (F_X8_copy K m B x y) (nCopy s x y).1 (nCopy s x y).2 := by
  unfold F_X8_copy f_X8_copy nCopy
  rcases isNone_c h x with ⟨hs, hn⟩ | ⟨S, hs, hn⟩
  · rw [hn, hs, bind_e, if_neg (by decide)]; exact okX.same h
  · rw [hn, hs, bind_e, if_pos rfl, isSlot_b, bind_e]
    dsimp only
    by_cases cy : slt y = true
    · rw [if_pos cy, if_neg (by decide), if_pos cy]
      obtain ⟨j, a, hj, rfl, hsj, hS, e1, e2, e3, e4, ⟨i, hi, ea⟩⟩ := h.at2 hok hs
      obtain ⟨k, hk, rfl, hkc⟩ := slot_nI (of_decide_eq_true cy)
      rw [hkc]
      by_cases cjk : nI j = nI k
      · have : j = k := (nI_eq (by omega) (by omega)).mp cjk
        subst this
        rw [if_pos rfl, upS_same hsj]; exact okX.same h
      · have hjk : j ≠ k := fun z => cjk (by rw [z])
        obtain ⟨d, d1, d2, ⟨π, d3⟩, d4, ⟨i', hi', ed⟩⟩ := h.slot hk
        rw [if_neg cjk, e1]
        simp only [bind_e]
        rw [d2, bind_e, e2, bind_e]
        have hii : i ≠ i' := by
          intro z
          obtain ⟨-, -, -, -, sa, as, -⟩ := h
          have h1 := saR_at as hj e4
          have h2 := saR_at as hk d4
          exact hjk (as.2.1 j k (by omega) (by omega) (by rw [← h1, ← h2, ea, ed, z]))
        obtain ⟨m', f1, f2, f3, f4⟩ := seBecome_ok d3 e3 hS (by omega)
        rw [f1, bind_e]
        obtain ⟨g1, g2⟩ := h.set hok hk d4 f3 f2
        exact ⟨m', rfl, g1, g2, f4⟩
    · rw [if_neg cy, if_neg cy, if_pos rfl]; exact okX.same h
theorem copy_st {s : St} (hok : stOk s) (x y : Int32) : stOk (nCopy s x y).2 := by
  unfold nCopy
  cases hs : sl s x with
  | none => exact hok
  | some S =>
    dsimp only
    split
    · exact upS_ok hok (sl_ok hok hs)
    · exact hok
