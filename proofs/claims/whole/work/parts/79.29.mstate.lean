/-! ===== the reference's state ===== -/
/-- cells that hold nothing of series or tape -/
def WS (A : Nat) : Nat → Nat → Prop := fun a k => (a = A ∧ k ≠ 13) ∨ (A + 14 ≤ a ∧ a ≤ A + 23) ∨ a = A + 6 ∨ ((a = A + 1 ∨ a = A + 2 ∨ a = A + 3 ∨ a = A + 10) ∧ 4 ≤ k) ∨ (a = A + 4 ∧ 12800 ≤ k) ∨ ((a = A + 5 ∨ a = A + 7 ∨ a = A + 8 ∨ a = A + 9) ∧ 64 ≤ k) ∨ ((a = A + 11 ∨ a = A + 12) ∧ 80 ≤ k)
/-- sealed or not -/
def zM (m : Mem) (A : Nat) : Prop := ∀ q, q < 80 → gI m (A + 7) q = 0 ∨ gI m (A + 7) q = 1
theorem zM.on {W : Nat → Nat → Prop} {m m' : Mem} {A : Nat} (h : zM m A) (e : fr W m m') (hw : ∀ k, ¬ W (A + 7) k) : zM m' A := fun q hq => by rw [e.I (hw q)]; exact h q hq
def KP (A : Nat) (m m' : Mem) : Prop := fr (WS A) m m' ∧ (∀ q, q < 64 → gI m (A + 7) q = 0 → gI m' (A + 6) q = gI m (A + 6) q) ∧ (zM m A → zM m' A)
theorem KP.refl (A : Nat) (m : Mem) : KP A m m := ⟨fr.refl m, fun _ _ _ => rfl, fun z => z⟩
theorem KP.trans {A : Nat} {m m1 m2 : Mem} (h : KP A m m1) (h' : KP A m1 m2) : KP A m m2 := ⟨h.1.trans h'.1, fun q hq h7 => (h'.2.1 q hq ((h.1.I (fun z => by unfold WS at z; omega)).trans h7)).trans (h.2.1 q hq h7), fun z => h'.2.2 (h.2.2 z)⟩
theorem KP.of {W : Nat → Nat → Prop} {A : Nat} {m m' : Mem} (h : fr W m m') (hw : ∀ a k, W a k → (a = A ∧ k ≠ 13) ∨ (A + 14 ≤ a ∧ a ≤ A + 23)) : KP A m m' :=
  ⟨h.mono (fun a k z => by have := hw a k z; unfold WS; omega), fun q _ _ => h.I (fun z => by have := hw _ _ z; omega), fun z => z.on h (fun k z => by have := hw _ _ z; omega)⟩
theorem KP.eq {A : Nat} {m m' : Mem} (h : KP A m m') : eqOn (off A 24) m m' := fun a ha k => by
  have : ¬ WS A a k := fun z => by unfold WS at z; unfold off at ha; omega
  exact ⟨h.1.I this, h.1.J this, h.1.R a k⟩
theorem KP.sz {A : Nat} {m m' : Mem} (h : KP A m m') : szm m' = szm m := h.1.2.1
theorem mbR.keep {A : Nat} {m m' : Mem} {q : Nat} {b : Bk} (h : mbR m A q b) (hb : b.2.1 ≤ 200) (hq : q < 64) (e : KP A m m') : mbR m' A q b := by
  obtain ⟨h1, h2, h3, h4, h5⟩ := h
  refine ⟨fun i hi => (e.1.I (fun z => by unfold WS at z; omega)).trans (h1 i hi), (e.1.I (fun z => by unfold WS at z; omega)).trans h2, (e.1.I (fun z => by unfold WS at z; omega)).trans h3, fun hs => ⟨(e.1.I (fun z => by unfold WS at z; omega)).trans (h4 hs).1, (e.1.I (fun z => by unfold WS at z; omega)).trans (h4 hs).2⟩, fun hs p c l hr => ?_⟩
  rw [hs] at h3
  exact (e.2.1 q hq h3).trans (h5 hs p c l hr)
/-- a series at a slot -/
def smR (m : Mem) (A j : Nat) (S : Sr) : Prop := gI m (A + 1) j = nI S.1 ∧ gI m (A + 2) j = iZ S.2.1 ∧ gI m (A + 3) j = nI S.2.2.2.length ∧ (∀ (k : Nat) (b : Bk), S.2.2.2[k]? = some b → mbR m A (16 * j + k) b) ∧ ∃ L : List Pt, L.Perm S.2.2.1 ∧ gI m (A + 10) j = nI L.length ∧ ∀ (i : Nat) (x : Pt), L[i]? = some x → gI m (A + 11) (20 * j + i) = nI x.1 ∧ gJ m (A + 12) (20 * j + i) = x.2
def smX (m : Mem) (A j : Nat) (o : Option Sr) : Prop := match o with
  | none => gI m (A + 1) j = 0
  | some S => smR m A j S
def RM (K : Kn) (m : Mem) (A : Nat) (s : St) : Prop := MS K m A ∧ (∀ j, j < 4 → smX m A j (s.1 j)) ∧ gI m A 13 = nI s.2.2 ∧ (∀ i, i < s.2.2 → gI m (A + 13) i = nI (s.2.1 i)) ∧ zM m A
theorem smR.keep {A : Nat} {m m' : Mem} {j : Nat} {S : Sr} (hS : srOk S) (h : smR m A j S) (hj : j < 4) (e : KP A m m') : smR m' A j S := by
  obtain ⟨h1, h2, h3, h4, L, h5, h6, h7⟩ := h
  have hl16 := hS.2.2.2.2.2.2.2.1
  have hl20 := hS.2.2.2.2.1
  refine ⟨(e.1.I (fun z => by unfold WS at z; omega)).trans h1, (e.1.I (fun z => by unfold WS at z; omega)).trans h2, (e.1.I (fun z => by unfold WS at z; omega)).trans h3, fun k b hb => ?_, L, h5, (e.1.I (fun z => by unfold WS at z; omega)).trans h6, fun i x hx => ?_⟩
  · have hk := (List.getElem?_eq_some_iff.mp hb).1
    exact (h4 k b hb).keep (hS.2.2.2.2.2.2.2.2.1 b (List.mem_of_getElem? hb)).1.2.2.1 (by omega) e
  · have hi := (List.getElem?_eq_some_iff.mp hx).1
    have := h5.length_eq
    exact ⟨(e.1.I (fun z => by unfold WS at z; omega)).trans (h7 i x hx).1, (e.1.J (fun z => by unfold WS at z; omega)).trans (h7 i x hx).2⟩
theorem smX.keep {A : Nat} {m m' : Mem} {j : Nat} {o : Option Sr} (hS : ∀ S, o = some S → srOk S) (h : smX m A j o) (hj : j < 4) (e : KP A m m') : smX m' A j o := by
  cases o with
  | none => exact (e.1.I (fun z => by unfold WS at z; omega)).trans h
  | some S => exact smR.keep (hS S rfl) h hj e
theorem RM.keep {K : Kn} {A : Nat} {m m' : Mem} {s : St} (hok : stOk s) (h : RM K m A s) (e : KP A m m') : RM K m' A s := by
  obtain ⟨h1, h2, h3, h4, h5⟩ := h
  exact ⟨h1.on e.1, fun j hj => (h2 j hj).keep (fun S hS => hok.1 j S hS) hj e, (e.1.I (fun z => by unfold WS at z; omega)).trans h3, fun i hi => (e.1.I (fun z => by unfold WS at z; omega)).trans (h4 i hi), e.2.2 h5⟩
/-- a call of the reference: its answer, the state then -/
def okM {α : Type} (K : Kn) (m : Mem) (A : Nat) (F : Option (α × Mem)) (ans : α) (s : St) : Prop := ∃ m', F = some (ans, m') ∧ RM K m' A s ∧ eqOn (off A 24) m m' ∧ szm m' = szm m
theorem okM.same {α : Type} {K : Kn} {m : Mem} {A : Nat} {s : St} {ans : α} (h : RM K m A s) : okM K m A (some (ans, m)) ans s := ⟨m, rfl, h, eqOn.refl m, rfl⟩
theorem okM.kp {α : Type} {K : Kn} {m m' : Mem} {A : Nat} {s : St} {ans : α} (hok : stOk s) (h : RM K m A s) (e : KP A m m') : okM K m A (some (ans, m')) ans s := ⟨m', rfl, h.keep hok e, e.eq, e.sz⟩
theorem in_3 (x : Int32) : F_X9_in x.toInt64 (0 : Int64) (3 : Int64) = some (if 0 ≤ x.toInt ∧ x.toInt < 4 then 1 else 0) := by
  rw [in_ok, Int32.toInt_toInt64]
  congr 1
  have e1 : (0 : Int64).toInt = 0 := rfl
  have e2 : (3 : Int64).toInt = 3 := rfl
  rw [e1, e2]
  by_cases c : 0 ≤ x.toInt ∧ x.toInt < 4
  · rw [if_pos c, if_pos (by omega)]
  · rw [if_neg c, if_neg (by omega)]
theorem RM.at {K : Kn} {m : Mem} {A : Nat} {s : St} (hok : stOk s) (h : RM K m A s) {x : Int32} {S : Sr} (hs : sl s x = some S) : ∃ j, j < 4 ∧ x = nI j ∧ s.1 j = some S ∧ srOk S ∧ smR m A j S := by
  unfold sl at hs
  by_cases c : 0 ≤ x.toInt ∧ x.toInt < 4
  · rw [if_pos c] at hs
    obtain ⟨j, hj, rfl, hc⟩ := slot_nI c
    rw [hc] at hs
    have := h.2.1 j hj
    rw [hs] at this
    exact ⟨j, hj, rfl, hs, hok.1 j S hs, this⟩
  · rw [if_neg c] at hs; cases hs
theorem isSeries_ok {K : Kn} {m : Mem} {A : Nat} {s : St} (hok : stOk s) (h : RM K m A s) (x : Int32) : (sl s x = none ∧ F_X9_isSeries K m A x = some 0) ∨ (∃ S, sl s x = some S ∧ F_X9_isSeries K m A x = some 1) := by
  unfold F_X9_isSeries f_X9_isSeries f_X9_isSeries_25
  rw [in_3, bind_e]
  unfold sl
  by_cases c : 0 ≤ x.toInt ∧ x.toInt < 4
  · obtain ⟨j, hj, rfl, hc⟩ := slot_nI c
    rw [if_pos c, if_pos c, hc, if_neg (by decide), h.1.d0, bind_e, h.1.g0 (by omega), bind_e]
    have := h.2.1 j hj
    cases hs : s.1 j with
    | none =>
      rw [hs] at this
      have this : gI m (A + 1) j = 0 := this
      left
      rw [this, if_pos (by decide)]
      exact ⟨rfl, rfl⟩
    | some S =>
      rw [hs] at this
      right
      have hS := hok.1 j S hs
      rw [this.1, if_neg (fun z => by have := (nI_leI (b := 0) (by have := hS.2.1; omega) (by omega)).mp z; have := hS.1; omega)]
      exact ⟨S, rfl, rfl⟩
  · rw [if_neg c, if_neg c]
    exact Or.inl ⟨rfl, rfl⟩
theorem isBlock_ok {K : Kn} {m : Mem} {A : Nat} {s : St} (hok : stOk s) (h : RM K m A s) (x k : Int32) : (bko s x k = none ∧ F_X9_isBlock K m A x k = some 0) ∨ (∃ S j n b, sl s x = some S ∧ j < 4 ∧ x = nI j ∧ k = nI n ∧ n < S.2.2.2.length ∧ S.2.2.2[n]? = some b ∧ bko s x k = some b ∧ srOk S ∧ bkOk b ∧ smR m A j S ∧ mbR m A (16 * j + n) b ∧ 16 * j + n < 64 ∧ F_X9_isBlock K m A x k = some 1) := by
  unfold F_X9_isBlock f_X9_isBlock f_X9_isBlock_30 bko
  rcases isSeries_ok hok h x with ⟨hs, hn⟩ | ⟨S, hs, hn⟩
  · rw [hn, hs, bind_e, if_pos rfl]
    exact Or.inl ⟨rfl, rfl⟩
  · obtain ⟨j, hj, rfl, hsj, hS, hm⟩ := h.at hok hs
    have h16 := hS.2.2.2.2.2.2.2.1
    rw [hn, hs, bind_e, if_neg (by decide), h.1.d2, bind_e, h.1.g2 (by omega), bind_e, hm.2.2.1, in_ok, bind_e, Int32.toInt_toInt64, Int32.toInt_toInt64]
    have e1 : (0 : Int64).toInt = 0 := rfl
    have e2 : (nI S.2.2.2.length - (1 : Int32)).toInt = (S.2.2.2.length : Int) - 1 := by
      rw [show (1 : Int32) = iZ 1 from rfl, ← iZ_nat, iZ_sub, iZ_toInt (by omega) (by omega)]
    rw [e1, e2]
    dsimp only
    have ez : (0 : Int32).toInt = 0 := rfl
    by_cases c1 : k < 0
    · left
      have h1 := (fa_lt _ _).mp c1
      rw [ez] at h1
      rw [if_pos c1, if_neg (show ¬ (0 ≤ k.toInt ∧ k.toInt ≤ (S.2.2.2.length : Int) - 1) by omega)]
      exact ⟨rfl, rfl⟩
    rw [if_neg c1]
    obtain ⟨n, hn2, rfl, hcl⟩ := idx_nI c1
    rw [hcl, nI_toInt hn2]
    by_cases c2 : n < S.2.2.2.length
    · right
      obtain ⟨b, hb⟩ := get_some (l := S.2.2.2) (i := n) c2
      rw [if_pos (show 0 ≤ (n : Int) ∧ (n : Int) ≤ (S.2.2.2.length : Int) - 1 by omega)]
      exact ⟨S, j, n, b, rfl, hj, rfl, rfl, c2, hb, hb, hS, (hS.2.2.2.2.2.2.2.2.1 b (List.mem_of_getElem? hb)).1, hm, hm.2.2.2.1 n b hb, by omega, rfl⟩
    · left
      rw [if_neg (show ¬ (0 ≤ (n : Int) ∧ (n : Int) ≤ (S.2.2.2.length : Int) - 1) by omega)]
      exact ⟨List.getElem?_eq_none (by omega), rfl⟩
theorem isStampM (x : Int32) : F_X9_isStamp x = some (if stm x = true then 1 else 0) := by
  unfold F_X9_isStamp f_X9_isStamp
  rw [in_ok, bind_e, Int32.toInt_toInt64]
  have e1 : (0 : Int64).toInt = 0 := rfl
  have e2 : (2000000000 : Int64).toInt = 2000000000 := by decide
  rw [e1, e2]
  unfold stm
  by_cases c : 0 ≤ x.toInt ∧ x.toInt ≤ 2000000000
  · rw [if_pos c, decide_eq_true c, if_pos rfl]; rfl
  · rw [if_neg c, decide_eq_false c, if_neg (by decide)]; rfl
theorem isAsked_ok {K : Kn} {m : Mem} {A : Nat} {s : St} (hok : stOk s) (h : RM K m A s) (x t : Int32) : (sl s x = none ∧ F_X9_isAsked K m A x t = some 0) ∨ (∃ S, sl s x = some S ∧ F_X9_isAsked K m A x t = some (if stm t = true then 1 else 0)) := by
  unfold F_X9_isAsked f_X9_isAsked f_X9_isAsked_19
  rcases isSeries_ok hok h x with ⟨hs, hn⟩ | ⟨S, hs, hn⟩
  · rw [hn, bind_e, if_pos rfl]; exact Or.inl ⟨hs, rfl⟩
  · right
    refine ⟨S, hs, ?_⟩
    rw [hn, bind_e, if_neg (by decide), isStampM, bind_e]
    cases stm t <;> rfl
theorem isSpan_ok {K : Kn} {m : Mem} {A : Nat} {s : St} (hok : stOk s) (h : RM K m A s) (x f t : Int32) : (sl s x = none ∧ F_X9_isSpan K m A x f t = some 0) ∨ (∃ S, sl s x = some S ∧ F_X9_isSpan K m A x f t = some (if t < f then 0 else 1)) := by
  unfold F_X9_isSpan f_X9_isSpan f_X9_isSpan_17
  rcases isSeries_ok hok h x with ⟨hs, hn⟩ | ⟨S, hs, hn⟩
  · rw [hn, bind_e, if_pos rfl]; exact Or.inl ⟨hs, rfl⟩
  · right
    refine ⟨S, hs, ?_⟩
    rw [hn, bind_e, if_neg (by decide)]
    split <;> rfl
theorem isNumM (v : Int64) : F_X9_isNumber v = some (if isN v = true then 1 else 0) := by
  unfold F_X9_isNumber f_X9_isNumber isN
  by_cases c : (v &&& (9223372036854775807 : Int64)) ≤ (9218868437227405312 : Int64)
  · rw [decide_eq_true c, if_pos rfl, if_neg (fun z => by
      have := (lg_cmp_gt _ _).mp z
      have a1 := (fa_le64 _ _).mp c
      have a2 := (fa_lt64 _ _).mp this
      omega)]
  · rw [decide_eq_false c, if_neg (by decide : ¬ (false = true)), if_pos ((lg_cmp_gt _ _).mpr (by
      rw [fa_lt64]
      rw [fa_le64] at c
      omega))]
/-- a block read: is it broken -/
theorem isBroken_ok {K : Kn} {m : Mem} {A q : Nat} {b : Bk} (h : MS K m A) (hq : q < 64) (hb : bkOk b) (hm : mbR m A q b) : ∃ m', F_X9_isBroken K m A (nI q) = some ((if sndB b = true then 0 else 1), m') ∧ KP A m m' ∧ fr (WQ A q) m m' ∧ rdRes m' A q (rsB b) := by
  obtain ⟨m', r1, r2, r3⟩ := reads_ok h (by omega) hb hm
  have hkp : KP A m m' := by
    refine ⟨r2.mono (fun a k z => by unfold WQ at z; unfold WS; omega), fun q' hq' h7 => ?_, fun z => z.on r2 (fun k z => by unfold WQ at z; omega)⟩
    by_cases e : q' = q
    · subst e
      cases hs : b.2.2.1 with
      | true =>
        have := hm.2.2.1
        rw [hs, h7] at this
        simp at this
      | false =>
        obtain ⟨p, c, l, hr, -⟩ := ok_open hb hs
        rw [hr] at r3
        exact r3.2.2.2.2.2.1.trans (hm.2.2.2.2 hs p c l hr).symm
    · exact r2.I (fun z => by unfold WQ at z; omega)
  unfold F_X9_isBroken f_X9_isBroken
  rw [r1, bind_e]
  unfold sndB
  cases hr : rsB b with
  | inl e =>
    rw [hr] at r3
    have hlt := rs_inl hb hr
    rw [if_neg (fun z => by rw [r3.1] at z; have := (nI_leI (b := 0) (by omega) (by omega)).mp z; omega)]
    exact ⟨m', rfl, hkp, r2, r3⟩
  | inr r =>
    rw [hr] at r3
    rw [if_pos (by rw [r3.1]; decide)]
    exact ⟨m', rfl, hkp, r2, r3⟩
