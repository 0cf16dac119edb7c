/-! ===== the reference packs ===== -/
theorem packs_loop {K : Kn} {A : Nat} {x1 : Int32} {l : List Pt} {Q : Nat → Int32 → Prop} (hsrt : srt l) (hle : ∀ q ∈ l, q.1 ≤ 2000000000) : ∀ (f i : Nat) (m : Mem) (S : Sr), i ≤ l.length → l.length - i < f → MS K m A → alM m A l Q → srOk S → (∀ q ∈ l.drop i, S.2.1 < (q.1 : Int)) → smB m A 4 S.1 S.2.2.2 → hnd m A S.2.2.2 → ∃ m', f_X9_packs_8 K A x1 f m (nI i) = some ((if (packL S (l.drop i)).isSome = true then 1 else 0), m') ∧ fr (WJ A 4) m m' ∧ (zM m A → zM m' A) ∧ ∀ S', packL S (l.drop i) = some S' → smB m' A 4 S.1 S'.2.2.2
  | 0, _, _, _, _, h, _, _, _, _, _, _ => absurd h (Nat.not_lt_zero _)
  | f + 1, i, m, S, hi, hf, h, hl, hS, hlt, hb, hh => by
    have unf : f_X9_packs_8 K A x1 (f + 1) m (nI i) = f_X9_packs_8B K A x1 (f_X9_packs_8 K A x1 f) m (nI i) := rfl
    rw [unf]
    unfold f_X9_packs_8B
    by_cases c : l.length ≤ i
    · rw [if_pos (al_end hl c (by omega)), List.drop_eq_nil_of_le c]
      refine ⟨m, rfl, fr.refl m, fun z => z, fun S' hS' => ?_⟩
      cases hS'
      exact hb
    · obtain ⟨q, hq⟩ := get_some (l := l) (i := i) (by omega)
      obtain ⟨a1, a2, a3, a4, a5⟩ := al_at h hl hq
      rw [if_neg a1, a2, bind_e, a4, bind_e, a3, bind_e, a5, bind_e, drop_get hq, packL_cons]
      rw [drop_get hq] at hlt
      have hc := comes_ok (K := K) (j := 4) (t := q.1) (v := q.2) h (by omega) hS hb hh (hlt q (by simp)) (hle q (List.mem_of_getElem? hq))
      cases hp : putS S q.1 q.2 with
      | none =>
        rw [hp] at hc
        have hc : F_X9_comes K m A (4 : Int32) (lN q.1) q.2 = some ((0 : Int32), m) := hc
        rw [hc, bind_e]
        exact ⟨m, rfl, fr.refl m, fun z => z, fun S' hS' => by cases hS'⟩
      | some S1 =>
        rw [hp] at hc
        obtain ⟨m1, e1, e2, e3, e4, e5⟩ := hc
        have e1 : F_X9_comes K m A (4 : Int32) (lN q.1) q.2 = some ((1 : Int32), m1) := e1
        obtain ⟨p1, p2, p3, p4, p5⟩ := putS_ok hS (hlt q (by simp)) (hle q (List.mem_of_getElem? hq)) hp
        rw [e1, bind_e]
        dsimp only
        rw [if_neg (by decide), bd_e, nI_1]
        obtain ⟨m2, r1, r2, r3, r4⟩ := packs_loop (K := K) (x1 := x1) hsrt hle f (i + 1) m1 S1 (by omega) (by omega) (h.on e4) (hl.on e4 (fun z => by unfold WJ at z; omega) (fun a i _ _ z => by unfold WJ at z; omega)) p1 (fun y hy => by
          rw [p2]
          obtain ⟨k, hk⟩ := List.getElem?_of_mem hy
          rw [List.getElem?_drop] at hk
          have := srt_lt hsrt hq hk (by omega)
          omega) (by rw [p3]; exact e2) e3
        refine ⟨m2, r1, e4.trans r2, fun z => r3 (e5 z), fun S' hS' => ?_⟩
        have := r4 S' hS'
        rw [p3] at this
        exact this
theorem packs_ok {K : Kn} {m : Mem} {A r : Nat} {l : List Pt} {Q : Nat → Int32 → Prop} (h : MS K m A) (hl : alM m A l Q) (hsrt : srt l) (hle : ∀ q ∈ l, q.1 ≤ 2000000000) (hr1 : 24 ≤ r) (hr2 : r ≤ 200) : ∃ m', F_X9_packs K m A (nI r) = some ((if (packA r l).isSome = true then 1 else 0), m') ∧ KP A m m' ∧ alM m' A l Q ∧ gI m' (A + 10) 4 = 0 ∧ ∀ S', packA r l = some S' → smB m' A 4 r S'.2.2.2 := by
  unfold F_X9_packs f_X9_packs
  obtain ⟨m1, e1, e2, e3, e4, e5, e6⟩ := clears_ok (K := K) (j := 4) (r := nI r) h (by omega)
  have e1 : F_X9_clears K m A (4 : Int32) (nI r) = some m1 := e1
  rw [e1, bind_e]
  have k1 : KP A m m1 := ⟨e6.mono (fun a k z => Or.inr (Or.inr (Or.inr (Or.inl ⟨z.1, by omega⟩)))), fun q hq _ => e6.I (fun z => by omega), fun z => z.on e6 (fun k z => by omega)⟩
  have al1 := hl.on e6 (fun z => by omega) (fun a i _ _ z => by omega)
  have hlen := hl.2.1
  obtain ⟨m2, r1, r2, r3, r4⟩ := packs_loop (K := K) (x1 := nI r) hsrt hle FU 0 m1 (r, -1, [], []) (Nat.zero_le _) (by rw [FU_e]; omega) (h.on e6) al1 (srOk_new hr1 hr2) (fun q _ => by show (-1 : Int) < q.1; omega) ⟨e2, e4, fun k b hb => by simp at hb⟩ (by unfold hnd; trivial)
  rw [List.drop_zero] at r1 r4
  exact ⟨m2, r1, k1.trans (WJ_KP r2 r3), al1.on r2 (fun z => by unfold WJ at z; omega) (fun a i _ _ z => by unfold WJ at z; omega), (r2.I (fun z => by unfold WJ at z; omega)).trans e5, r4⟩
theorem okM.from {α : Type} {K : Kn} {m m1 : Mem} {A : Nat} {F : Option (α × Mem)} {ans : α} {s : St} (e : KP A m m1) (h : okM K m1 A F ans s) : okM K m A F ans s := by
  obtain ⟨m', h1, h2, h3, h4⟩ := h
  exact ⟨m', h1, h2, e.eq.trans h3, h4.trans e.sz⟩
/-- what is gathered comes to a slot -/
theorem lays_ok {K : Kn} {m : Mem} {A to_ r : Nat} {s : St} {l : List Pt} {Q : Nat → Int32 → Prop} (hok : stOk s) (h : RM K m A s) (hl : alM m A l Q) (hsrt : srt l) (hle : ∀ q ∈ l, q.1 ≤ 2000000000) (hr1 : 24 ≤ r) (hr2 : r ≤ 200) (hto : to_ < 4) : okM K m A (F_X9_lays K m A (nI to_) (nI r)) (nPack s (nI to_) r l (fun S' => nI S'.2.2.2.length)).1 (nPack s (nI to_) r l (fun S' => nI S'.2.2.2.length)).2 := by
  unfold F_X9_lays f_X9_lays nPack
  obtain ⟨m1, e1, e2, e3, e4, e5⟩ := packs_ok h.1 hl hsrt hle hr1 hr2
  rw [e1, bind_e]
  cases hp : packA r l with
  | none => exact okM.kp hok h e2
  | some S' =>
    obtain ⟨b1, b2, b3⟩ := e5 S' hp
    obtain ⟨p1, p2, p3, p4⟩ := packL_ok (srOk_new hr1 hr2) hsrt hle (fun q _ => by show (-1 : Int) < q.1; omega) hp
    have p3 : S'.1 = r := p3
    have p2 : S'.2.2.1 = [] := p2
    have s1 := h.1.on e2.1
    have h16 := p1.2.2.2.2.2.2.2.1
    have hlen := e3.2.1
    have fin : ∀ v : Int32, v = iZ S'.2.1 → okM K m A (f_X9_lays_39 K A (nI to_) (nI r) m1 (A + 2) (4 : Int32) v) (nI S'.2.2.2.length) (upS s (nI to_).toNatClampNeg S') := fun v hv => by
      unfold f_X9_lays_39
      rw [show (4 : Int32) = nI 4 from rfl, s1.s1 (by omega), bind_e]
      have fM : fr (fun a k => a = A + 2 ∧ k = 4) m1 (sI m1 (A + 2) 4 v) := fr_sI ⟨rfl, rfl⟩
      have kM : KP A m1 (sI m1 (A + 2) 4 v) := ⟨fM.mono (fun a k z => Or.inr (Or.inr (Or.inr (Or.inl ⟨by omega, by omega⟩)))), fun q hq _ => fM.I (fun z => by omega), fun z => z.on fM (fun k z => by omega)⟩
      have k2 := e2.trans kM
      have h2 := h.keep hok k2
      obtain ⟨m2, q1, q2, q3, q4⟩ := copiesTo_ok (K := K) (from_ := 4) (to_ := to_) h2.1 h2.2.2.2.2 (by omega) (by omega)
      rw [q1, bind_e]
      have s2 := h2.1.on q3
      have hsm : smR (sI m1 (A + 2) 4 v) A 4 S' := by
        refine ⟨?_, ?_, ?_, fun k b hb => (b3 k b hb).on fM (fun i _ z => by omega) (fun a _ _ z => by omega), [], by rw [p2], ?_, fun i x hx => by simp at hx⟩
        · rw [fM.I (fun z => by omega), b1, p3]
        · rw [gI_sI_s, hv]
        · rw [fM.I (fun z => by omega), b2]
        · rw [fM.I (fun z => by omega), e4]; rfl
      have hsm2 := hsm.copy p1 q2
      rw [s2.d2, bind_e, s2.g2 (by omega), bind_e, hsm2.2.2.1, nI_clamp (by omega)]
      exact okM.up hok h hto (k2.up.trans (WT_UP q3 q4)) hsm2
    dsimp only
    rw [if_pos (show (some S').isSome = true from rfl), if_neg (by decide), s1.d1, bind_e, e3.1]
    by_cases c : l.length = 0
    · rw [if_pos ((nI_zero (by omega)).mpr c)]
      refine fin (-1) ?_
      have : l = [] := List.eq_nil_of_length_eq_zero c
      rw [this] at p4
      rw [p4]; rfl
    · rw [if_neg (fun z => c ((nI_zero (by omega)).mp z)), s1.d30, bind_e, show (1 : Int32) = nI 1 from rfl, pk_sub (by omega), s1.g30 (by omega), bind_e]
      obtain ⟨q, hq⟩ := get_some (l := l) (i := l.length - 1) (by omega)
      refine fin _ ?_
      rw [List.getLast?_eq_getElem?, hq] at p4
      rw [(e3.2.2 _ q hq).1, l2i_lN, p4]
      exact (iZ_nat q.1).symm
theorem laysTold {K : Kn} {m : Mem} {A to_ r : Nat} {s : St} {l : List Pt} {Q : Nat → Int32 → Prop} {z : Int32} (hok : stOk s) (h : RM K m A s) (hl : alM m A l Q) (hsrt : srt l) (hle : ∀ q ∈ l, q.1 ≤ 2000000000) (hr1 : 24 ≤ r) (hr2 : r ≤ 200) (hto : to_ < 4) : okM K m A ((F_X9_lays K m A (nI to_) (nI r)).bind fun q => if q.1 = (-4 : Int32) then some ((-4 : Int32), q.2) else some (z, q.2)) (nPack s (nI to_) r l (fun _ => z)).1 (nPack s (nI to_) r l (fun _ => z)).2 := by
  obtain ⟨m', e1, e2, e3, e4⟩ := lays_ok hok h hl hsrt hle hr1 hr2 hto
  rw [e1, bind_e]
  unfold nPack at e2 ⊢
  cases hp : packA r l with
  | none =>
    rw [hp] at e2
    exact ⟨m', rfl, e2, e3, e4⟩
  | some S' =>
    rw [hp] at e2
    have h16 := (packL_ok (srOk_new hr1 hr2) hsrt hle (fun q _ => by show (-1 : Int) < q.1; omega) hp).1.2.2.2.2.2.2.2.1
    dsimp only
    rw [if_neg (fun y => by
      have := congrArg Int32.toInt y
      rw [nI_toInt (by omega)] at this
      have e : (-4 : Int32).toInt = -4 := by decide
      omega)]
    exact ⟨m', rfl, e2, e3, e4⟩
theorem srOk.room {S : Sr} (h : srOk S) : 24 ≤ S.1 ∧ S.1 ≤ 200 := ⟨h.1, h.2.1⟩
theorem mrepack_ok {K : Kn} {m : Mem} {A : Nat} {s : St} (hok : stOk s) (h : RM K m A s) (x r : Int32) : okM K m A (F_X9_repack K m A x r) (nRepack s x r).1 (nRepack s x r).2 := by
  unfold F_X9_repack f_X9_repack nRepack
  rcases isSeries_ok hok h x with ⟨hs, hn⟩ | ⟨S, hs, hn⟩
  · rw [hn, hs, bind_e, if_pos rfl]; exact okM.same h
  · rw [hn, hs, bind_e, if_neg (by decide), in_room, bind_e]
    dsimp only
    by_cases cr : rmm r = true
    · rw [if_pos cr, if_pos cr, if_neg (by decide)]
      obtain ⟨j, hj, rfl, hsj, hS, hm⟩ := h.at hok hs
      obtain ⟨n, n1, n2, rfl, hnc⟩ := rmm_nM cr
      obtain ⟨m1, r1, r2⟩ := hasBrokenM hj hS h.1 hm
      rw [r1, bind_e, hnc]
      by_cases cs : sndL S.2.2.2 = true
      · rw [if_pos cs, if_pos cs, if_pos rfl]
        have h1 := h.keep hok r2
        obtain ⟨m2, g1, g2, g3, ⟨g4, g5⟩, g6, -, g7, g8⟩ := gathM hok h1 hs
        rw [g1, bind_e]
        obtain ⟨m3, q1, q2, q3, q4⟩ := lays_ok hok g6 g5 g7 g8 n1 n2 hj
        rw [q1, bind_e]
        exact okM.from (r2.trans g2) ⟨m3, rfl, q2, q3, q4⟩
      · rw [if_neg cs, if_neg cs]
        dsimp only
        rw [if_neg (by decide)]
        exact okM.kp hok h r2
    · rw [if_neg cr, if_neg cr, if_pos rfl]; exact okM.same h
theorem mmerge_ok {K : Kn} {m : Mem} {A : Nat} {s : St} (hok : stOk s) (h : RM K m A s) (x : Int32) : okM K m A (F_X9_merge K m A x) (nMerge s x).1 (nMerge s x).2 := by
  unfold F_X9_merge f_X9_merge nMerge
  rcases isSeries_ok hok h x with ⟨hs, hn⟩ | ⟨S, hs, hn⟩
  · rw [hn, hs, bind_e, if_pos rfl]; exact okM.same h
  · obtain ⟨j, hj, rfl, hsj, hS, hm⟩ := h.at hok hs
    have hr := hS.room
    rw [hn, hs, bind_e, if_neg (by decide), h.1.d0, bind_e, h.1.g0 (by omega), bind_e, hm.1]
    obtain ⟨m1, e1, e2, e3, e4⟩ := mrepack_ok hok h (nI j) (nI S.1)
    rw [e1, bind_e]
    have : nRepack s (nI j) (nI S.1) = (if sndL S.2.2.2 = true then nPack s (nI j) S.1 (allP S) (fun S' => nI S'.2.2.2.length) else (-6, s)) := by
      unfold nRepack
      rw [hs]
      dsimp only
      have hrm : rmm (nI S.1) = true := by
        unfold rmm
        rw [nI_toInt (by omega)]
        exact decide_eq_true (by omega)
      rw [if_pos hrm, nI_clamp (by omega)]
    rw [this] at e2 ⊢
    exact ⟨m1, rfl, e2, e3, e4⟩
