/-! ===== the reference: calls that change a series ===== -/
theorem mbR.eq {m m' : Mem} {A q : Nat} {b : Bk} (h : mbR m A q b) (h4 : ∀ i, i < b.2.1 → gI m' (A + 4) (200 * q + i) = gI m (A + 4) (200 * q + i)) (h5 : gI m' (A + 5) q = gI m (A + 5) q) (h7 : gI m' (A + 7) q = gI m (A + 7) q) (h8 : gI m' (A + 8) q = gI m (A + 8) q) (h9 : gI m' (A + 9) q = gI m (A + 9) q) (h6 : gI m (A + 7) q = 0 → gI m' (A + 6) q = gI m (A + 6) q) : mbR m' A q b := by
  obtain ⟨a1, a2, a3, a4, a5⟩ := h
  refine ⟨fun i hi => (h4 i hi).trans (a1 i hi), h5.trans a2, h7.trans a3, fun hs => ⟨h8.trans (a4 hs).1, h9.trans (a4 hs).2⟩, fun hs p c l hr => ?_⟩
  rw [hs] at a3
  exact (h6 a3).trans (a5 hs p c l hr)
/-- cells of a slot, and those that hold nothing -/
def WU (A j : Nat) : Nat → Nat → Prop := fun a k => WS A a k ∨ ((a = A + 1 ∨ a = A + 2 ∨ a = A + 3 ∨ a = A + 10) ∧ k = j) ∨ (a = A + 4 ∧ 3200 * j ≤ k ∧ k < 3200 * j + 3200) ∨ ((a = A + 5 ∨ a = A + 7 ∨ a = A + 8 ∨ a = A + 9) ∧ 16 * j ≤ k ∧ k < 16 * j + 16) ∨ ((a = A + 11 ∨ a = A + 12) ∧ 20 * j ≤ k ∧ k < 20 * j + 20)
def UP (A j : Nat) (m m' : Mem) : Prop := fr (WU A j) m m' ∧ (∀ q, q < 64 → (q < 16 * j ∨ 16 * j + 16 ≤ q) → gI m (A + 7) q = 0 → gI m' (A + 6) q = gI m (A + 6) q) ∧ (zM m A → zM m' A)
theorem KP.up {A j : Nat} {m m' : Mem} (h : KP A m m') : UP A j m m' := ⟨h.1.mono (fun a k z => Or.inl z), fun q hq _ h7 => h.2.1 q hq h7, h.2.2⟩
theorem UP.trans {A j : Nat} {m m1 m2 : Mem} (h : UP A j m m1) (h' : UP A j m1 m2) : UP A j m m2 := ⟨h.1.trans h'.1, fun q hq ho h7 => (h'.2.1 q hq ho ((h.1.I (fun z => by unfold WU WS at z; omega)).trans h7)).trans (h.2.1 q hq ho h7), fun z => h'.2.2 (h.2.2 z)⟩
/-- nothing but cells of a slot and of the point at hand -/
theorem UP.of {W : Nat → Nat → Prop} {A j : Nat} {m m' : Mem} (h : fr W m m') (hw : ∀ a k, W a k → (WU A j a k ∧ (a = A + 6 → 16 * j ≤ k ∧ k < 16 * j + 16))) (hz : zM m A → zM m' A) : UP A j m m' :=
  ⟨h.mono (fun a k z => (hw a k z).1), fun q _ ho _ => h.I (fun z => by have := (hw _ _ z).2 rfl; omega), hz⟩
theorem WJ_WU {A j a k : Nat} (z : WJ A j a k) : WU A j a k := by
  rcases z with z | z | z | ⟨z, z2⟩
  · exact Or.inl (Or.inl ⟨z.1, by omega⟩)
  · exact Or.inr (Or.inl ⟨Or.inr (Or.inr (Or.inl z.1)), z.2⟩)
  · exact Or.inr (Or.inr (Or.inl z))
  · rcases z with z | z | z | z | z
    · exact Or.inr (Or.inr (Or.inr (Or.inl ⟨Or.inl z, z2⟩)))
    · exact Or.inl (Or.inr (Or.inr (Or.inl z)))
    · exact Or.inr (Or.inr (Or.inr (Or.inl ⟨Or.inr (Or.inl z), z2⟩)))
    · exact Or.inr (Or.inr (Or.inr (Or.inl ⟨Or.inr (Or.inr (Or.inl z)), z2⟩)))
    · exact Or.inr (Or.inr (Or.inr (Or.inl ⟨Or.inr (Or.inr (Or.inr z)), z2⟩)))
theorem WJ_UP {A j : Nat} {m m' : Mem} (h : fr (WJ A j) m m') (hz : zM m A → zM m' A) : UP A j m m' := UP.of h (fun a k z => ⟨WJ_WU z, by unfold WJ at z; omega⟩) hz
theorem WJ_KP {A : Nat} {m m' : Mem} (h : fr (WJ A 4) m m') (hz : zM m A → zM m' A) : KP A m m' := ⟨h.mono (fun a k z => by unfold WJ at z; unfold WS; omega), fun q hq _ => h.I (fun z => by unfold WJ at z; omega), hz⟩
theorem UP.eq {A j : Nat} {m m' : Mem} (h : UP A j m m') : eqOn (off A 24) m m' := fun a ha k => by
  have : ¬ WU A j a k := fun z => by unfold WU WS at z; unfold off at ha; omega
  exact ⟨h.1.I this, h.1.J this, h.1.R a k⟩
theorem UP.sz {A j : Nat} {m m' : Mem} (h : UP A j m m') : szm m' = szm m := h.1.2.1
theorem smR.other {A j i : Nat} {m m' : Mem} {S : Sr} (hS : srOk S) (h : smR m A i S) (hi : i < 4) (hne : i ≠ j) (e : UP A j m m') : smR m' A i S := by
  obtain ⟨h1, h2, h3, h4, L, h5, h6, h7⟩ := h
  have hl16 := hS.2.2.2.2.2.2.2.1
  have hl20 := hS.2.2.2.2.1
  refine ⟨(e.1.I (fun z => by unfold WU WS at z; omega)).trans h1, (e.1.I (fun z => by unfold WU WS at z; omega)).trans h2, (e.1.I (fun z => by unfold WU WS at z; omega)).trans h3, fun k b hb => ?_, L, h5, (e.1.I (fun z => by unfold WU WS at z; omega)).trans h6, fun k x hx => ?_⟩
  · have hk := (List.getElem?_eq_some_iff.mp hb).1
    have h200 := (hS.2.2.2.2.2.2.2.2.1 b (List.mem_of_getElem? hb)).1.2.2.1
    exact (h4 k b hb).eq (fun n hn => e.1.I (fun z => by unfold WU WS at z; omega)) (e.1.I (fun z => by unfold WU WS at z; omega)) (e.1.I (fun z => by unfold WU WS at z; omega)) (e.1.I (fun z => by unfold WU WS at z; omega)) (e.1.I (fun z => by unfold WU WS at z; omega)) (e.2.1 _ (by omega) (by omega))
  · have hk := (List.getElem?_eq_some_iff.mp hx).1
    have := h5.length_eq
    exact ⟨(e.1.I (fun z => by unfold WU WS at z; omega)).trans (h7 k x hx).1, (e.1.J (fun z => by unfold WU WS at z; omega)).trans (h7 k x hx).2⟩
theorem RM.up {K : Kn} {A j : Nat} {m m' : Mem} {s : St} {S' : Sr} (hok : stOk s) (h : RM K m A s) (hj : j < 4) (e : UP A j m m') (hs : smR m' A j S') : RM K m' A (upS s j S') := by
  obtain ⟨h1, h2, h3, h4, h5⟩ := h
  refine ⟨h1.on e.1, fun i hi => ?_, (e.1.I (fun z => by unfold WU WS at z; omega)).trans h3, fun i hi => (e.1.I (fun z => by unfold WU WS at z; omega)).trans (h4 i hi), e.2.2 h5⟩
  show smX m' A i (if i = j then some S' else s.1 i)
  by_cases c : i = j
  · rw [if_pos c, c]; exact hs
  · rw [if_neg c]
    have := h2 i hi
    cases hx : s.1 i with
    | none =>
      rw [hx] at this
      exact (e.1.I (fun z => by unfold WU WS at z; omega)).trans this
    | some S =>
      rw [hx] at this
      exact smR.other (hok.1 i S hx) this hi c e
theorem okM.up {α : Type} {K : Kn} {m m' : Mem} {A j : Nat} {s : St} {ans : α} {S' : Sr} (hok : stOk s) (h : RM K m A s) (hj : j < 4) (e : UP A j m m') (hs : smR m' A j S') : okM K m A (some (ans, m')) ans (upS s j S') := ⟨m', rfl, h.up hok hj e hs, e.eq, e.sz⟩
theorem hasBroken_ok {K : Kn} {A j : Nat} {S : Sr} (hj : j < 4) (hS : srOk S) : ∀ (f k : Nat) (m : Mem), k ≤ S.2.2.2.length → S.2.2.2.length - k < f → MS K m A → smR m A j S → ∃ m', f_X9_hasBroken_2 K A (nI j) f m (nI k) = some ((if sndL (S.2.2.2.drop k) = true then 0 else 1), m') ∧ KP A m m'
  | 0, _, _, _, h, _, _ => absurd h (Nat.not_lt_zero _)
  | f + 1, k, m, hk, hf, h, hm => by
    have h16 := hS.2.2.2.2.2.2.2.1
    have unf : f_X9_hasBroken_2 K A (nI j) (f + 1) m (nI k) = f_X9_hasBroken_2B K A (nI j) (f_X9_hasBroken_2 K A (nI j) f) m (nI k) := rfl
    rw [unf]
    unfold f_X9_hasBroken_2B
    rw [h.d2, bind_e, h.g2 (by omega), bind_e]
    by_cases c : k = S.2.2.2.length
    · subst c
      rw [if_pos (blk_n hS hm), List.drop_eq_nil_of_le (Nat.le_refl _)]
      exact ⟨m, rfl, KP.refl A m⟩
    · obtain ⟨b, hb⟩ := get_some (l := S.2.2.2) (i := k) (by omega)
      obtain ⟨b1, b2, b3, b4, b5⟩ := blk_m h hj hS hm hb
      obtain ⟨m1, r1, r2, r3, r4⟩ := isBroken_ok h b4 b2 b3
      rw [if_neg b1, b5, r1, bind_e, drop_get hb]
      have e : sndL (b :: S.2.2.2.drop (k + 1)) = (sndB b && sndL (S.2.2.2.drop (k + 1))) := by simp [sndL]
      rw [e]
      dsimp only
      cases hsb : sndB b with
      | true =>
        rw [if_pos rfl, if_pos rfl, bd_e, nI_1, Bool.true_and]
        obtain ⟨m2, q1, q2⟩ := hasBroken_ok hj hS f (k + 1) m1 (by omega) (by omega) (h.on r3) (hm.keep hS hj r2)
        exact ⟨m2, q1, r2.trans q2⟩
      | false =>
        rw [if_neg (by decide : ¬ (false = true)), if_neg (by decide), Bool.false_and]
        exact ⟨m1, rfl, r2⟩
theorem hasBrokenM {K : Kn} {m : Mem} {A j : Nat} {S : Sr} (hj : j < 4) (hS : srOk S) (h : MS K m A) (hm : smR m A j S) : ∃ m', F_X9_hasBroken K m A (nI j) = some ((if sndL S.2.2.2 = true then 0 else 1), m') ∧ KP A m m' := by
  obtain ⟨m', r1, r2⟩ := hasBroken_ok hj hS FU 0 m (Nat.zero_le _) (by rw [FU_e]; have := hS.2.2.2.2.2.2.2.1; omega) h hm
  rw [List.drop_zero] at r1
  exact ⟨m', r1, r2⟩
theorem iZ_m1 {z : Int} (h1 : -1 ≤ z) (h2 : z ≤ 2000000000) : iZ z = (-1 : Int32) ↔ z = -1 := by
  rw [fa_eq, iZ_toInt (by omega) (by omega)]; rfl
theorem isAbove_ok {K : Kn} {m : Mem} {A j : Nat} {S : Sr} (h : MS K m A) (hj : j < 4) (hS : srOk S) (hm : smR m A j S) {t : Int32} (ht : 0 ≤ t.toInt) : F_X9_isAbove K m A (nI j) t = some (if S.2.1 < t.toInt then 1 else 0) := by
  unfold F_X9_isAbove f_X9_isAbove f_X9_isAbove_20
  have h3 := hS.2.2.1
  have h4 := hS.2.2.2.1
  simp only [h.d1, bind_e, h.g1 (show j < 5 by omega), hm.2.1]
  by_cases c : S.2.1 = -1
  · rw [if_pos ((iZ_m1 h3 h4).mpr c), if_pos (by omega)]
  · rw [if_neg (fun z => c ((iZ_m1 h3 h4).mp z))]
    have i1 : t ≤ iZ S.2.1 ↔ t.toInt ≤ S.2.1 := by rw [fa_le, iZ_toInt (by omega) (by omega)]
    by_cases d : S.2.1 < t.toInt
    · rw [if_neg (fun z => by have := i1.mp z; omega), if_pos d]
    · rw [if_pos (i1.mpr (by omega)), if_neg d]
theorem clears_ok {K : Kn} {m : Mem} {A j : Nat} {r : Int32} (h : MS K m A) (hj : j < 5) : ∃ m', F_X9_clears K m A (nI j) r = some m' ∧ gI m' (A + 1) j = r ∧ gI m' (A + 2) j = -1 ∧ gI m' (A + 3) j = 0 ∧ gI m' (A + 10) j = 0 ∧ fr (fun a k => (a = A + 1 ∨ a = A + 2 ∨ a = A + 3 ∨ a = A + 10) ∧ k = j) m m' := by
  unfold F_X9_clears f_X9_clears
  have s1 : MS K (sI m (A + 1) j r) A := h.on (fr_sI (W := fun _ _ => True) trivial)
  have s2 : MS K (sI (sI m (A + 1) j r) (A + 2) j (-1)) A := s1.on (fr_sI (W := fun _ _ => True) trivial)
  have s3 : MS K (sI (sI (sI m (A + 1) j r) (A + 2) j (-1)) (A + 3) j 0) A := s2.on (fr_sI (W := fun _ _ => True) trivial)
  rw [h.d0, bind_e, h.s0 hj, bind_e, s1.d1, bind_e, s1.s1 hj, bind_e, s2.d2, bind_e, s2.s2 hj, bind_e, s3.d9, bind_e, s3.s9 hj, bind_e]
  refine ⟨_, rfl, ?_, ?_, ?_, gI_sI_s, ?_⟩
  · rw [gI_sI_n (Or.inl (by omega)), gI_sI_n (Or.inl (by omega)), gI_sI_n (Or.inl (by omega)), gI_sI_s]
  · rw [gI_sI_n (Or.inl (by omega)), gI_sI_n (Or.inl (by omega)), gI_sI_s]
  · rw [gI_sI_n (Or.inl (by omega)), gI_sI_s]
  · exact (((fr_sI ⟨by omega, rfl⟩).trans (fr_sI ⟨by omega, rfl⟩)).trans (fr_sI ⟨by omega, rfl⟩)).trans (fr_sI ⟨by omega, rfl⟩)
theorem in_room (r : Int32) : F_X9_in r.toInt64 (24 : Int64) (200 : Int64) = some (if rmm r = true then 1 else 0) := by
  rw [in_ok, Int32.toInt_toInt64]
  have e1 : (24 : Int64).toInt = 24 := by decide
  have e2 : (200 : Int64).toInt = 200 := by decide
  rw [e1, e2]
  unfold rmm
  by_cases c : 24 ≤ r.toInt ∧ r.toInt ≤ 200
  · rw [if_pos c, decide_eq_true c, if_pos rfl]
  · rw [if_neg c, decide_eq_false c, if_neg (by decide)]
theorem in_3b (x : Int32) : F_X9_in x.toInt64 (0 : Int64) (3 : Int64) = some (if slt x = true then 1 else 0) := by
  rw [in_3]
  unfold slt
  by_cases c : 0 ≤ x.toInt ∧ x.toInt < 4
  · rw [if_pos c, decide_eq_true c, if_pos rfl]
  · rw [if_neg c, decide_eq_false c, if_neg (by decide)]
theorem slt_nI {x : Int32} (h : slt x = true) : ∃ j, j < 4 ∧ x = nI j ∧ x.toNatClampNeg = j := slot_nI (of_decide_eq_true h)
theorem rmm_nM {r : Int32} (h : rmm r = true) : ∃ n, 24 ≤ n ∧ n ≤ 200 ∧ r = nI n ∧ r.toNatClampNeg = n := by
  have h := of_decide_eq_true h
  obtain ⟨n, hn, rfl, hc⟩ := idx_nI (k := r) (by rw [fa_lt]; show ¬ r.toInt < 0; omega)
  rw [nI_toInt hn] at h
  exact ⟨n, by omega, by omega, rfl, hc⟩
theorem mbegins_ok {K : Kn} {m : Mem} {A : Nat} {s : St} (hok : stOk s) (h : RM K m A s) (x r : Int32) : okM K m A (F_X9_begins K m A x r) (nBegins s x r).1 (nBegins s x r).2 := by
  unfold F_X9_begins f_X9_begins nBegins
  rw [in_3b, bind_e, in_room, bind_e]
  by_cases c1 : slt x = true
  · rw [if_pos c1, if_neg (by decide)]
    by_cases c2 : rmm r = true
    · rw [if_pos c2, if_neg (by decide), if_pos ⟨c1, c2⟩]
      obtain ⟨j, hj, rfl, hc⟩ := slt_nI c1
      obtain ⟨n, n1, n2, rfl, hn⟩ := rmm_nM c2
      obtain ⟨m1, e1, e2, e3, e4, e5, e6⟩ := clears_ok (K := K) (j := j) (r := nI n) h.1 (by omega)
      rw [e1, bind_e, hc, hn]
      refine okM.up hok h hj (UP.of e6 (fun a k z => ⟨by unfold WU; omega, by omega⟩) (fun z => z.on e6 (fun k z => by omega))) ⟨e2, e3, e4, fun k b hb => by simp at hb, [], List.Perm.refl _, e5, fun i x hx => by simp at hx⟩
    · rw [if_neg c2, if_pos rfl, if_neg (fun z => c2 z.2)]; exact okM.same h
  · rw [if_neg c1, if_pos rfl, if_neg (fun z => c1 z.1)]; exact okM.same h
theorem smR.B {m : Mem} {A j : Nat} {S : Sr} (h : smR m A j S) : smB m A j S.1 S.2.2.2 := ⟨h.1, h.2.2.1, h.2.2.2.1⟩
theorem madd_ok {K : Kn} {m : Mem} {A : Nat} {s : St} (hok : stOk s) (h : RM K m A s) (x t : Int32) (v : Int64) : okM K m A (F_X9_add K m A x t v) (nAdd s x t v).1 (nAdd s x t v).2 := by
  unfold F_X9_add f_X9_add nAdd
  rcases isSeries_ok hok h x with ⟨hs, hn⟩ | ⟨S, hs, hn⟩
  · rw [hn, hs, bind_e, if_pos rfl]; exact okM.same h
  · rw [hn, hs, bind_e, if_neg (by decide), isStampM, bind_e]
    dsimp only
    by_cases ct : stm t = true
    · rw [if_pos ct, if_pos ct, if_neg (by decide)]
      obtain ⟨T, hT, rfl, hti⟩ := stm_nI ct
      obtain ⟨j, hj, rfl, hsj, hS, hm⟩ := h.at hok hs
      rw [isAbove_ok h.1 hj hS hm (by omega), bind_e, hti, nI_clamp (by omega), nI_clamp (by omega)]
      by_cases ca : S.2.1 < (T : Int)
      · rw [if_pos ca, if_pos ca, if_neg (by decide)]
        obtain ⟨m1, r1, r2, r3, r4⟩ := opens_ok h.1 hj hS hm
        have h1 := h.keep hok r2
        have hm1 := hm.keep hS hj r2
        rw [r1, bind_e, nI_long (by omega)]
        have hnd1 : hnd m1 A S.2.2.2 := by
          unfold hnd
          cases ho : opA S.2.2.2 with
          | none => trivial
          | some pc => rw [ho] at r4; exact r4
        have hc := comes_ok (K := K) (v := v) h1.1 (show j < 5 by omega) hS hm1.B hnd1 ca hT
        cases hp : putS S T v with
        | none =>
          rw [hp] at hc
          rw [hc, bind_e]
          exact okM.kp hok h r2
        | some S' =>
          rw [hp] at hc
          obtain ⟨m2, q1, q2, q3, q4, q5⟩ := hc
          obtain ⟨p1, p2, p3, p4, p5⟩ := putS_ok hS ca hT hp
          have s2 := h1.1.on q4
          have s3 : MS K (sI m2 (A + 2) j (nI T)) A := s2.on (fr_sI (W := fun _ _ => True) trivial)
          have h16 := p1.2.2.2.2.2.2.2.1
          rw [q1, bind_e]
          dsimp only
          rw [if_neg (by decide), s2.d1, bind_e, s2.s1 (by omega), bind_e, s3.d2, bind_e, s3.g2 (by omega), bind_e, gI_sI_n (Or.inl (by omega)), q2.2.1, show (1 : Int32) = nI 1 from rfl, pk_sub (by omega)]
          have fM : fr (fun a k => WJ A j a k ∨ (a = A + 2 ∧ k = j)) m1 (sI m2 (A + 2) j (nI T)) := (q4.mono (fun a k z => Or.inl z)).trans (fr_sI (Or.inr ⟨rfl, rfl⟩))
          have f2 : fr (fun a k => a = A + 2 ∧ k = j) m2 (sI m2 (A + 2) j (nI T)) := fr_sI ⟨rfl, rfl⟩
          have uM : UP A j m1 (sI m2 (A + 2) j (nI T)) := UP.of fM (fun a k z => by
            refine ⟨?_, ?_⟩
            · rcases z with z | z
              · exact WJ_WU z
              · exact Or.inr (Or.inl ⟨Or.inr (Or.inl z.1), z.2⟩)
            · unfold WJ at z; omega) (fun z => (q5 z).on f2 (fun k z => by omega))
          obtain ⟨-, -, -, -, L, l1, l2, l3⟩ := hm1
          refine okM.up hok h hj (r2.up.trans uM) ⟨?_, ?_, ?_, fun k b hb => (q2.2.2 k b hb).on f2 (fun i _ z => by omega) (fun a _ _ z => by omega), L, by rw [p4]; exact l1, ?_, fun i y hy => ?_⟩
          · rw [f2.I (fun z => by omega), q2.1, p3]
          · rw [gI_sI_s, p2, iZ_nat]
          · rw [f2.I (fun z => by omega), q2.2.1]
          · rw [fM.I (fun z => by unfold WJ at z; omega)]; exact l2
          · exact ⟨(fM.I (fun z => by unfold WJ at z; omega)).trans (l3 i y hy).1, (fM.J (fun z => by unfold WJ at z; omega)).trans (l3 i y hy).2⟩
      · rw [if_neg ca, if_neg ca, if_pos rfl]; exact okM.same h
    · rw [if_neg ct, if_neg ct, if_pos rfl]; exact okM.same h
theorem mwould_ok {K : Kn} {m : Mem} {A : Nat} {s : St} (hok : stOk s) (h : RM K m A s) (x t : Int32) (v : Int64) : okM K m A (F_X9_would K m A x t v) (aWould s x t v) s := by
  unfold F_X9_would f_X9_would aWould
  rcases isSeries_ok hok h x with ⟨hs, hn⟩ | ⟨S, hs, hn⟩
  · rw [hn, hs, bind_e, if_pos rfl]; exact okM.same h
  · rw [hn, hs, bind_e, if_neg (by decide), isStampM, bind_e]
    dsimp only
    by_cases ct : stm t = true
    · rw [if_pos ct, if_pos ct, if_neg (by decide)]
      obtain ⟨T, hT, rfl, hti⟩ := stm_nI ct
      obtain ⟨j, hj, rfl, hsj, hS, hm⟩ := h.at hok hs
      rw [isAbove_ok h.1 hj hS hm (by omega), bind_e, hti, nI_clamp (by omega)]
      by_cases ca : S.2.1 < (T : Int)
      · rw [if_pos ca, if_pos ca, if_neg (by decide)]
        obtain ⟨m1, r1, r2, r3, r4⟩ := opens_ok h.1 hj hS hm
        have h1 := h.keep hok r2
        have hm1 := hm.keep hS hj r2
        have h16 := hS.2.2.2.2.2.2.2.1
        rw [r1, bind_e]
        unfold f_X9_would_69 f_X9_would_70 f_X9_would_88 f_X9_would_127
        have hf : ∀ v : Int32, okM K m A (some (v, m1)) v s := fun v => okM.kp hok h r2
        simp only [h1.1.d2, h1.1.d6, bind_e, h1.1.g2 (show j < 5 by omega), hm1.2.2.1, if_true]
        rcases last_cases S.2.2.2 with hb | ⟨bl0, b, hb⟩
        · rw [hb, if_pos (by decide), opA_nil]; exact hf _
        · have hlen : S.2.2.2.length = bl0.length + 1 := by rw [hb]; simp
          have hget : S.2.2.2[bl0.length]? = some b := by rw [hb]; exact get_last bl0 b
          have hbm := hS.2.2.2.2.2.2.2.2.1 b (by rw [hb]; simp)
          have hmb := hm1.2.2.2.1 _ b hget
          have idx : (16 : Int32) * nI j + nI S.2.2.2.length - (1 : Int32) = nI (16 * j + bl0.length) := by
            rw [hlen, show (16 : Int32) = nI 16 from rfl, show (1 : Int32) = nI 1 from rfl, nI_mul, nI_add, pk_sub (by omega), show 16 * j + (bl0.length + 1) - 1 = 16 * j + bl0.length by omega]
          rw [idx, if_neg (fun z => by have := (nI_leI (b := 0) (by omega) (by omega)).mp z; omega), h1.1.g6 (by omega), bind_e, hmb.2.2.1]
          cases hse : b.2.2.1 with
          | true =>
            rw [if_pos rfl, if_neg (by decide), hb, opA_t hse]; exact hf _
          | false =>
            obtain ⟨p, c, l, hr, -⟩ := ok_open hbm.1 hse
            have eo : opA S.2.2.2 = some (p, c) := by rw [hb, opA_f hse hr]
            obtain ⟨f1, f2, f3, f4, f5, f6, f7, f8, f9, f10, f11⟩ := rs_facts hbm.1 hr
            rw [eo] at r4 ⊢
            obtain ⟨hcs, h20⟩ := r4
            have hcl := (costA_le f5 T v).2
            have h200 := hS.2.1
            dsimp only
            rw [if_neg (by decide : ¬ (false = true)), if_pos rfl, if_neg (by decide : ¬ ((1 : Int32) = 0)), nI_long (by omega), takesBits_ok hcs f5 (by omega) hT v, bind_e, if_neg (by decide : ¬ ((1 : Int32) = 0)), h1.1.d0, bind_e, h1.1.g0 (by omega), bind_e, hm1.1, h20, show (14 : Int32) = nI 14 from rfl, show (7 : Int32) = nI 7 from rfl, show (8 : Int32) = nI 8 from rfl, nI_add, nI_add, pk_div (by omega) (by omega) (by omega), nI_add, nI_1]
            by_cases cf : fitA S.1 p c T v = true
            · have cf' := of_decide_eq_true cf
              rw [if_pos cf, if_neg (fun z => by have := (nI_ltI (by omega) (by omega)).mp z; omega)]; exact hf _
            · have cf' : ¬ (14 + (p + costA c T v + 7) / 8 + 1 ≤ S.1) := fun z => cf (decide_eq_true z)
              rw [if_neg cf, if_pos ((nI_ltI (by omega) (by omega)).mpr (by omega))]; exact hf _
      · rw [if_neg ca, if_neg ca, if_pos rfl]; exact okM.same h
    · rw [if_neg ct, if_neg ct, if_pos rfl]; exact okM.same h
