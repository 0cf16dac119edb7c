/-! ===== calls of the class that change a series ===== -/
def upS (s : St) (j : Nat) (S : Sr) : St := (fun i => if i = j then some S else s.1 i, s.2)
theorem upS_ok {s : St} (h : stOk s) {j : Nat} {S : Sr} (hS : srOk S) : stOk (upS s j S) := by
  refine ⟨fun i S' hi => ?_, h.2⟩
  unfold upS at hi
  dsimp only at hi
  by_cases c : i = j
  · rw [if_pos c] at hi; cases hi; exact hS
  · rw [if_neg c] at hi; exact h.1 i S' hi
theorem saR_at {m : Mem} {B : Nat} {sa : Nat → Nat} (a : saR m B sa) {j : Nat} (hj : j < 4) {x : Nat} (h : gR m (B + 1) j = some x) : x = sa j := by
  have := a.2.2.1 j hj
  rw [h] at this
  exact Option.some.inj this
theorem RX.set {K : Kn} {m m' : Mem} {B : Nat} {s : St} (hok : stOk s) (h : RX K m B s) {j a : Nat} (hj : j < 4) (ha : gR m (B + 1) j = some a) {S : Sr} (e : eqOn (off a 38) m m') (hS : seR K m' a S) : RX K m' B (upS s j S) ∧ eqOn (off B 205) m m' := by
  obtain ⟨h1, h2, h3, h4, sa, a0, h5, π, h6⟩ := h
  have := saR_at a0 hj ha
  subst this
  obtain ⟨a1, a2, a3, a4⟩ := a0
  obtain ⟨i, hi, hsa⟩ := a1 j (by omega)
  have oB : ∀ q, (q < B + 2 ∨ B + 192 ≤ q) → off (sa j) 38 q := fun q hq => by unfold off; omega
  have ok : ∀ k, k < 5 → k ≠ j → insr (sa k) 38 (off (sa j) 38) := fun k hk hkj q g1 g2 => by
    obtain ⟨i', hi', hsa'⟩ := a1 k hk
    have hne : i' ≠ i := fun z => hkj (a2 k j hk (by omega) (by rw [hsa, hsa', z]))
    unfold off; omega
  refine ⟨⟨h1, ?_, ?_, ?_, sa, ⟨a1, a2, fun k hk => (e.R (oB _ (by omega))).trans (a3 k hk), (e.R (oB _ (by omega))).trans a4⟩, fun k hk => ?_, π, h6.on e (ok 4 (by omega) (by omega))⟩, e.mono (fun q hq => by unfold off at hq ⊢; omega)⟩
  · obtain ⟨r1, r2, r3, r4, r5, r6, r7, r8⟩ := h2
    have e0 := oB B (by omega)
    exact ⟨(e.R e0).trans r1, (e.R e0).trans r2, (e.R e0).trans r3, (e.R e0).trans r4, (e.R e0).trans r5, (e.R e0).trans r6, (e.R e0).trans r7, (e.R e0).trans r8⟩
  · obtain ⟨c1, c2, c3, c4, c5, c6⟩ := h3
    exact ⟨c1.on e (oB _ (by omega)), c2.on e (oB _ (by omega)), c3.on e (oB _ (by omega)), (e.R (oB _ (by omega))).trans c4, (e.R (oB _ (by omega))).trans c5, (e.R (oB _ (by omega))).trans c6⟩
  · obtain ⟨t1, t2, t3⟩ := h4
    exact ⟨(e.R (oB _ (by omega))).trans t1, (e.I (oB _ (by omega))).trans t2, fun i hi => (e.I (oB _ (by omega))).trans (t3 i hi)⟩
  · unfold upS
    dsimp only
    by_cases c : k = j
    · rw [if_pos c, c]; exact hS
    · rw [if_neg c]
      exact (h5 k hk).on (fun S hS => hok.1 k S hS) e (ok k (by omega) c)
theorem RX.at2 {K : Kn} {m : Mem} {B : Nat} {s : St} (hok : stOk s) (h : RX K m B s) {x : Int32} {S : Sr} (hs : sl s x = some S) : ∃ j a, j < 4 ∧ x = nI j ∧ s.1 j = some S ∧ srOk S ∧ ldA K m B 0 3 = some (B + 1) ∧ alO K m (B + 1) x 6 = some a ∧ seR K m a S ∧ gR m (B + 1) j = some a ∧ (∃ i, i < 5 ∧ a = B + 2 + 38 * i) := by
  obtain ⟨h1, h2, h3, h4, sa, a, h5, h6⟩ := h
  unfold sl at hs
  by_cases c : 0 ≤ x.toInt ∧ x.toInt < 4
  · rw [if_pos c] at hs
    obtain ⟨j, hj, rfl, hc⟩ := slot_nI c
    rw [hc] at hs
    have := h5 j hj
    rw [hs] at this
    exact ⟨j, sa j, hj, rfl, hs, hok.1 j S hs, (slot_at (s := s) h1 h2 a hj).1, (slot_at (s := s) h1 h2 a hj).2, this, a.2.2.1 j hj, a.1 j (by omega)⟩
  · rw [if_neg c] at hs; cases hs
theorem RX.slot {K : Kn} {m : Mem} {B : Nat} {s : St} (h : RX K m B s) {j : Nat} (hj : j < 4) : ∃ a, ldA K m B 0 3 = some (B + 1) ∧ alO K m (B + 1) (nI j) 6 = some a ∧ (∃ π, seS K m a π) ∧ gR m (B + 1) j = some a ∧ (∃ i, i < 5 ∧ a = B + 2 + 38 * i) := by
  obtain ⟨h1, h2, h3, h4, sa, a, h5, h6⟩ := h
  refine ⟨sa j, (slot_at (s := s) h1 h2 a hj).1, (slot_at (s := s) h1 h2 a hj).2, ?_, a.2.2.1 j hj, a.1 j (by omega)⟩
  have := h5 j hj
  cases hs : s.1 j with
  | none => rw [hs] at this; exact this.1
  | some S => rw [hs] at this; obtain ⟨π, q, -⟩ := this; exact ⟨π, q⟩
def rmm (r : Int32) : Bool := decide (24 ≤ r.toInt ∧ r.toInt ≤ 200)
theorem isRoom_ok (x : Int32) : F_X8_isRoom x = some (if rmm x = true then 1 else 0) := by
  unfold F_X8_isRoom f_X8_isRoom f_X8_isRoom_17 rmm
  have c1 : x < (24 : Int32) ↔ ¬ (24 ≤ x.toInt) := by rw [fa_lt]; show x.toInt < 24 ↔ _; omega
  have c2 : (200 : Int32) < x ↔ ¬ (x.toInt ≤ 200) := by rw [fa_lt]; show 200 < x.toInt ↔ _; omega
  by_cases h1 : 24 ≤ x.toInt
  · rw [if_neg (fun z => c1.mp z h1)]
    by_cases h2 : x.toInt ≤ 200
    · rw [if_neg (fun z => c2.mp z h2), if_pos (decide_eq_true ⟨h1, h2⟩)]
    · rw [if_pos (c2.mpr h2), if_neg (fun z => h2 (of_decide_eq_true z).2)]
  · rw [if_pos (c1.mpr h1), if_neg (fun z => h1 (of_decide_eq_true z).1)]
theorem rmm_nI {x : Int32} (h : rmm x = true) : ∃ r, 24 ≤ r ∧ r ≤ 200 ∧ x = nI r ∧ x.toNatClampNeg = r := by
  have := of_decide_eq_true h
  refine ⟨x.toInt.toNat, by omega, by omega, ?_, rfl⟩
  rw [← iZ_nat, show ((x.toInt.toNat : Nat) : Int) = x.toInt by omega, iZ_of]
def slt (x : Int32) : Bool := decide (0 ≤ x.toInt ∧ x.toInt < 4)
theorem isSlot_b (x : Int32) : F_X8_isSlot x = some (if slt x = true then 1 else 0) := by
  rw [isSlot_ok]
  unfold slt
  by_cases c : 0 ≤ x.toInt ∧ x.toInt < 4
  · rw [if_pos c, if_pos (decide_eq_true c)]
  · rw [if_neg c, if_neg (by rw [decide_eq_true_eq]; exact c)]
def nBegins (s : St) (x r : Int32) : Int32 × St := if slt x = true ∧ rmm r = true then (0, upS s x.toNatClampNeg (r.toNatClampNeg, -1, [], [])) else (-2, s)
theorem begins_ok {K : Kn} {m : Mem} {B : Nat} {s : St} (hok : stOk s) (h : RX K m B s) (x r : Int32) : okX K m B (F_X8_begins K m B x r) (nBegins s x r).1 (nBegins s x r).2 := by
  unfold F_X8_begins f_X8_begins nBegins
  rw [isSlot_b, bind_e]
  by_cases c1 : slt x = true
  · rw [if_pos c1, if_neg (by decide), isRoom_ok, bind_e]
    by_cases c2 : rmm r = true
    · rw [if_pos c2, if_neg (by decide), if_pos ⟨c1, c2⟩]
      obtain ⟨j, hj, rfl, hc⟩ := slot_nI (of_decide_eq_true c1)
      obtain ⟨rr, hr1, hr2, rfl, hrc⟩ := rmm_nI c2
      obtain ⟨a, e1, e2, ⟨π, e3⟩, e4, e5⟩ := h.slot hj
      rw [e1, bind_e, e2, bind_e]
      obtain ⟨m', f1, f2, f3, f4, f5⟩ := start_ok (room := rr) e3
      rw [f1, bind_e, hc, hrc]
      obtain ⟨g1, g2⟩ := h.set hok hj e4 f4 ⟨π, f2, f3⟩
      exact ⟨m', rfl, g1, g2, f5⟩
    · rw [if_neg c2, if_pos rfl, if_neg (fun z => c2 z.2)]; exact okX.same h
  · rw [if_neg c1, if_pos rfl, if_neg (fun z => c1 z.1)]; exact okX.same h
theorem begins_st {s : St} (hok : stOk s) (x r : Int32) : stOk (nBegins s x r).2 := by
  unfold nBegins
  split
  · rename_i c
    obtain ⟨rr, hr1, hr2, rfl, hrc⟩ := rmm_nI c.2
    rw [hrc]
    exact upS_ok hok (srOk_new hr1 hr2)
  · exact hok
def nAdd (s : St) (x t : Int32) (v : Int64) : Int32 × St := match sl s x with
  | none => (-2, s)
  | some S => if stm t = true then (if S.2.1 < t.toInt then (match putS S t.toNatClampNeg v with
    | none => (-4, s)
    | some S' => (nI (S'.2.2.2.length - 1), upS s x.toNatClampNeg S')) else (-5, s)) else (-2, s)
theorem upS_same {s : St} {j : Nat} {S : Sr} (h : s.1 j = some S) : upS s j S = s := by
  unfold upS
  have : (fun i => if i = j then some S else s.1 i) = s.1 := by
    funext i
    by_cases c : i = j
    · rw [if_pos c, c, h]
    · rw [if_neg c]
  rw [this]
theorem last_cmp {S : Sr} (hS : srOk S) (t : Int32) : iZ S.2.1 < t ↔ S.2.1 < t.toInt := by
  rw [fa_lt, iZ_toInt (by have := hS.2.2.1; omega) (by have := hS.2.2.2.1; omega)]
theorem add_ok {K : Kn} {m : Mem} {B : Nat} {s : St} (hok : stOk s) (h : RX K m B s) (x t : Int32) (v : Int64) : okX K m B (F_X8_add K m B x t v) (nAdd s x t v).1 (nAdd s x t v).2 := by
  unfold F_X8_add f_X8_add nAdd
  rcases isNone_c h x with ⟨hs, hn⟩ | ⟨S, hs, hn⟩
  · rw [hn, hs, bind_e, if_neg (by decide)]; exact okX.same h
  · rw [hn, hs, bind_e, if_pos rfl, isStamp_x, bind_e]
    dsimp only
    by_cases ct : stm t = true
    · rw [if_pos ct, if_neg (by decide)]
      obtain ⟨j, a, hj, rfl, hsj, hS, e1, e2, e3, e4, e5⟩ := h.at2 hok hs
      obtain ⟨n, hn2, rfl, hti⟩ := stm_nI ct
      have h5 : gI m a 5 = iZ S.2.1 := by obtain ⟨π, -, d⟩ := e3; exact d.2.2.1
      simp only [e1, bind_e, e2]
      rw [h5, if_pos ct]
      by_cases cl : S.2.1 < (nI n).toInt
      · rw [if_pos ((last_cmp hS _).mpr cl), if_pos cl, nI_clamp (by omega), (slot_c hj).2]
        rw [hti] at cl
        obtain ⟨pN, pS⟩ := put_ok (v := v) e3 hS cl hn2
        cases hp : putS S n v with
        | none =>
          obtain ⟨m', f1, f2, f3, f4⟩ := pN hp
          rw [f1, bind_e]
          obtain ⟨g1, g2⟩ := h.set hok hj e4 f3 f2
          rw [upS_same hsj] at g1
          exact ⟨m', rfl, g1, g2, f4⟩
        | some S' =>
          obtain ⟨m', f1, f2, f3, f4⟩ := pS S' hp
          rw [f1, bind_e]
          obtain ⟨g1, g2⟩ := h.set hok hj e4 f3 f2
          exact ⟨m', rfl, g1, g2, f4⟩
      · rw [if_neg (fun z => cl ((last_cmp hS _).mp z)), if_neg cl]; exact okX.same h
    · rw [if_neg ct, if_neg ct, if_pos rfl]; exact okX.same h
theorem add_st {s : St} (hok : stOk s) (x t : Int32) (v : Int64) : stOk (nAdd s x t v).2 := by
  unfold nAdd
  cases hs : sl s x with
  | none => exact hok
  | some S =>
    dsimp only
    split
    · rename_i ct
      obtain ⟨n, hn2, rfl, hti⟩ := stm_nI ct
      split
      · rename_i cl
        have hS : srOk S := by
          unfold sl at hs
          split at hs
          · exact hok.1 _ S hs
          · cases hs
        rw [hti] at cl
        rw [nI_clamp (by omega)]
        split
        · exact hok
        · rename_i S' hp
          exact upS_ok hok (putS_ok hS cl hn2 hp).1
      · exact hok
    · exact hok
theorem sl_ok {s : St} (hok : stOk s) {x : Int32} {S : Sr} (hs : sl s x = some S) : srOk S := by
  unfold sl at hs
  split at hs
  · exact hok.1 _ S hs
  · cases hs
def aWould (s : St) (x t : Int32) (v : Int64) : Int32 := match sl s x with
  | none => -2
  | some S => if stm t = true then (if S.2.1 < t.toInt then (match opA S.2.2.2 with
    | none => 0
    | some (p, c) => if fitA S.1 p c t.toNatClampNeg v = true then nI (costA c t.toNatClampNeg v) else 0) else -5) else -2
theorem would_ok {K : Kn} {m : Mem} {B : Nat} {s : St} (hok : stOk s) (h : RX K m B s) (x t : Int32) (v : Int64) : okX K m B (F_X8_would K m B x t v) (aWould s x t v) s := by
  unfold F_X8_would f_X8_would aWould
  rcases isNone_c h x with ⟨hs, hn⟩ | ⟨S, hs, hn⟩
  · rw [hn, hs, bind_e, if_neg (by decide)]; exact okX.same h
  · rw [hn, hs, bind_e, if_pos rfl, isStamp_x, bind_e]
    dsimp only
    by_cases ct : stm t = true
    · rw [if_pos ct, if_neg (by decide)]
      obtain ⟨j, a, hj, rfl, hsj, hS, e1, e2, ⟨π, e3, e3'⟩, e4, e5⟩ := h.at2 hok hs
      obtain ⟨n, hn2, rfl, hti⟩ := stm_nI ct
      simp only [e1, bind_e, e2]
      rw [e3'.2.2.1, if_pos ct]
      by_cases cl : S.2.1 < (nI n).toInt
      · rw [if_pos ((last_cmp hS _).mpr cl), if_pos cl, nI_clamp (by omega)]
        rw [hti] at cl
        rw [fits_ok e3 e3' hS cl hn2, bind_e]
        rcases last_cases S.2.2.2 with hb | ⟨bl0, b, hb⟩
        · have ho : opA S.2.2.2 = none := by rw [hb]; rfl
          rw [ho]
          dsimp only
          rw [if_pos rfl]; exact okX.same h
        · have hgl : S.2.2.2.getLast? = some b := by rw [hb, List.getLast?_concat]
          have hbm := (hS.2.2.2.2.2.2.2.2.1 b (by rw [hb]; simp)).1
          cases hse : b.2.2.1 with
          | true =>
            have ho : opA S.2.2.2 = none := by rw [hb, opA_t hse]
            rw [ho]
            dsimp only
            rw [if_pos rfl]; exact okX.same h
          | false =>
            obtain ⟨p, c, l, hr, hop⟩ := ok_open hbm hse
            have hco := e3'.2.2.2.2.2.2 b p c l hgl hse hr
            have ho : opA S.2.2.2 = some (p, c) := by rw [hb, opA_f hse hr]
            rw [ho]
            dsimp only
            have s1 := seS_wg e3 c n v
            have d1 := seD_wg (t := n) (v := v) e3 e3' hS.2.2.2.2.2.2.2.1 hco
            have f1 : eqOn (off a 38) m (wgM m (a + 5) c n v) := (wg_off m (a + 5) c n v).mono (fun q hq => by show q ≠ a + 5; unfold off at hq; omega)
            obtain ⟨g1, g2⟩ := h.set hok hj e4 f1 ⟨π, s1, d1⟩
            rw [upS_same hsj] at g1
            have hwe := (wg_we m (a + 5) c n v).2.2.2.2.2.1
            have hz := wg_sz m (a + 5) c n v
            generalize wgM m (a + 5) c n v = m1 at s1 d1 f1 g1 g2 hwe hz
            by_cases cf : fitA S.1 p c n v = true
            · rw [if_neg (show ¬ (if fitA S.1 p c n v = true then (1 : Int32) else 0) = 0 by rw [if_pos cf]; decide), if_pos cf, ldO_n s1.2.2.2.1 s1.1.2.2.2.2.2.1, bind_e, hwe]
              exact ⟨m1, rfl, g1, g2, hz⟩
            · rw [if_pos (show (if fitA S.1 p c n v = true then (1 : Int32) else 0) = 0 by rw [if_neg cf]), if_neg cf]
              exact ⟨m1, rfl, g1, g2, hz⟩
      · rw [if_neg (fun z => cl ((last_cmp hS _).mp z)), if_neg cl]; exact okX.same h
    · rw [if_neg ct, if_neg ct, if_pos rfl]; exact okX.same h
