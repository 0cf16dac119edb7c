/-! ===== the reference mends ===== -/
theorem mndU_one {b : Bk} {n : Nat} : mndU b (n + 1) = mndU b n ++ (if goodK b n = true then [n] else []) := by
  unfold mndU
  rw [List.range_succ, List.filter_append]
  congr 1
  by_cases c : goodK b n = true
  · rw [if_pos c, List.filter_cons_of_pos c]; rfl
  · rw [if_neg c, List.filter_cons_of_neg c]; rfl
/-- which mend is laid -/
def mnF (m : Mem) (A : Nat) (acc : List Nat) (x : Int32) : Prop := ∀ n key, n < 2147483648 → x = nI n → acc[n]? = some key → gI m A 34 = nI (key / 256) ∧ gI m A 35 = nI (key % 256)
/-- one byte of the block aside -/
def MX (A q i : Nat) (m0 m : Mem) : Prop := fr (fun a k => WS A a k ∨ (a = A + 4 ∧ k = 200 * q + i)) m0 m ∧ (∀ p, p < 64 → gI m0 (A + 7) p = 0 → gI m (A + 6) p = gI m0 (A + 6) p) ∧ (zM m0 A → zM m A)
theorem MX.kp {A q i : Nat} {m0 m m1 : Mem} (h : MX A q i m0 m) (e : KP A m m1) : MX A q i m0 m1 := ⟨h.1.trans (e.1.mono (fun a k z => Or.inl z)), fun p hp h7 => (e.2.1 p hp ((h.1.I (fun z => by rcases z with z | z; unfold WS at z; omega; omega)).trans h7)).trans (h.2.1 p hp h7), fun z => e.2.2 (h.2.2 z)⟩
theorem MX.st {A q i : Nat} {m0 m : Mem} {v : Int32} (h : MX A q i m0 m) : MX A q i m0 (sI m (A + 4) (200 * q + i) v) := by
  have fM : fr (fun a k => a = A + 4 ∧ k = 200 * q + i) m (sI m (A + 4) (200 * q + i) v) := fr_sI ⟨rfl, rfl⟩
  exact ⟨h.1.trans (fM.mono (fun a k z => Or.inr z)), fun p hp h7 => (fM.I (fun z => by omega)).trans (h.2.1 p hp h7), fun z => (h.2.2 z).on fM (fun k z => by omega)⟩
theorem MX.back {A q i : Nat} {m0 m : Mem} (h : MX A q i m0 m) (hv : gI m (A + 4) (200 * q + i) = gI m0 (A + 4) (200 * q + i)) (hJ : gJ m (A + 4) (200 * q + i) = gJ m0 (A + 4) (200 * q + i)) : KP A m0 m := by
  refine ⟨⟨h.1.1, h.1.2.1, fun a k nw => ?_⟩, h.2.1, h.2.2⟩
  by_cases c : a = A + 4 ∧ k = 200 * q + i
  · rw [c.1, c.2]; exact ⟨hv, hJ⟩
  · exact h.1.2.2 a k (fun z => z.elim nw c)
theorem putB_mb {m : Mem} {A q i v : Nat} {b : Bk} (h : mbR m A q b) (hs : b.2.2.1 = true) : mbR (sI m (A + 4) (200 * q + i) (nI v)) A q (putB b i v) := by
  have fM : fr (fun a k => a = A + 4 ∧ k = 200 * q + i) m (sI m (A + 4) (200 * q + i) (nI v)) := fr_sI ⟨rfl, rfl⟩
  obtain ⟨q1, q2, q3, q4, q5⟩ := h
  refine ⟨fun n hn => ?_, (fM.I (fun z => by omega)).trans q2, (fM.I (fun z => by omega)).trans q3, fun z => ⟨(fM.I (fun z => by omega)).trans (q4 z).1, (fM.I (fun z => by omega)).trans (q4 z).2⟩, fun z => ?_⟩
  · show gI _ (A + 4) (200 * q + n) = nI (if n = i then v else b.1 n)
    by_cases c : n = i
    · rw [if_pos c, c, gI_sI_s]
    · rw [if_neg c, gI_sI_n (Or.inr (by omega))]; exact q1 n hn
  · have z : b.2.2.1 = false := z
    rw [hs] at z; cases z
theorem putB_putB (b : Bk) (i v w : Nat) : putB (putB b i v) i w = putB b i w := by
  unfold putB
  congr 1
  funext k
  dsimp only
  by_cases c : k = i
  · rw [if_pos c, if_pos c]
  · rw [if_neg c, if_neg c, if_neg c]
theorem putB_self (b : Bk) (i : Nat) : putB b i (b.1 i) = b := by
  unfold putB
  have : (fun k => if k = i then b.1 i else b.1 k) = b.1 := by
    funext k
    by_cases c : k = i
    · rw [if_pos c, c]
    · rw [if_neg c]
  rw [this]
theorem mn_42 {K : Kn} {A q i : Nat} {b : Bk} {x2 : Int32} {k19 : Mem → Int32 → Int32 → Option (Int32 × Mem)} {m0 : Mem} (hq : q < 64) (hb : bkOk b) (hs : b.2.2.1 = true) (hi : i < b.2.1) (h0 : gI m0 (A + 4) (200 * q + i) = nI (b.1 i)) (hJ0 : True) : ∀ (f v : Nat) (m : Mem) (w : Nat), v ≤ 256 → 256 - v < f → MS K m A → MX A q i m0 m → (∀ k, gJ m (A + 4) k = gJ m0 (A + 4) k) → mbR m A q (putB b i w) → mnF m A (mndU b (256 * i + v)) x2 → ∃ m', f_X9_mendsOf_42 K A (nI q) x2 k19 f m (nI (mndU b (256 * i + v)).length) (nI i) (nI (b.1 i)) (nI v) = k19 m' (nI (mndU b (256 * i + 256)).length) (nI (i + 1)) ∧ MS K m' A ∧ KP A m0 m' ∧ (∀ k, gJ m' (A + 4) k = gJ m0 (A + 4) k) ∧ mbR m' A q b ∧ mnF m' A (mndU b (256 * i + 256)) x2
  | 0, _, _, _, _, h, _, _, _, _, _ => absurd h (Nat.not_lt_zero _)
  | f + 1, v, m, w, hv, hf, h, hx, hJ, hm, hn => by
    have h200 := hb.2.2.1
    have hbi := hb.1 i hi
    have hlen := mndU_len b (256 * i + v)
    have unf : f_X9_mendsOf_42 K A (nI q) x2 k19 (f + 1) m (nI (mndU b (256 * i + v)).length) (nI i) (nI (b.1 i)) (nI v) = f_X9_mendsOf_42B K A (nI q) x2 k19 (f_X9_mendsOf_42 K A (nI q) x2 k19 f) m (nI (mndU b (256 * i + v)).length) (nI i) (nI (b.1 i)) (nI v) := rfl
    rw [unf]
    unfold f_X9_mendsOf_42B
    have i256 : (256 : Int32) ≤ nI v ↔ 256 ≤ v := nI_leI (a := 256) (by omega) (by omega)
    rw [show (200 : Int32) = nI 200 from rfl, nI_mul, nI_add]
    by_cases c : 256 ≤ v
    · have e : v = 256 := by omega
      subst e
      rw [if_pos (i256.mpr c), h.d3, bind_e, h.s3 (by omega), bind_e, bd_e, nI_1]
      have fM : fr (fun a k => a = A + 4 ∧ k = 200 * q + i) m (sI m (A + 4) (200 * q + i) (nI (b.1 i))) := fr_sI ⟨rfl, rfl⟩
      have hmm := putB_mb (i := i) (v := b.1 i) hm hs
      rw [putB_putB, putB_self] at hmm
      refine ⟨_, rfl, h.on fM, (hx.st (v := nI (b.1 i))).back (by rw [gI_sI_s, h0]) (hJ _), hJ, hmm, fun n key h1 h2 h3 => ?_⟩
      exact ⟨(fM.I (fun z => by omega)).trans (hn n key h1 h2 h3).1, (fM.I (fun z => by omega)).trans (hn n key h1 h2 h3).2⟩
    · rw [if_neg (fun z => c (i256.mp z))]
      have hgk : goodK b (256 * i + v) = (decide (v ≠ b.1 i) && sndB (putB b i v)) := by
        unfold goodK
        rw [show (256 * i + v) % 256 = v by omega, show (256 * i + v) / 256 = i by omega]
      have iv : nI v = nI (b.1 i) ↔ v = b.1 i := nI_eq (by omega) (by omega)
      have eU := mndU_one (b := b) (n := 256 * i + v)
      by_cases cw : v = b.1 i
      · rw [if_pos (iv.mpr cw)]
        unfold f_X9_mendsOf_126
        rw [bd_e, nI_1]
        have eg : mndU b (256 * i + (v + 1)) = mndU b (256 * i + v) := by
          rw [← Nat.add_assoc, eU, hgk, decide_eq_false (by simp [cw]), Bool.false_and, if_neg (by decide), List.append_nil]
        rw [← eg]
        exact mn_42 hq hb hs hi h0 hJ0 f (v + 1) m w (by omega) (by omega) h hx hJ hm (by rw [eg]; exact hn)
      · rw [if_neg (fun z => cw (iv.mp z)), h.d3, bind_e, h.s3 (by omega), bind_e]
        have fM : fr (fun a k => a = A + 4 ∧ k = 200 * q + i) m (sI m (A + 4) (200 * q + i) (nI v)) := fr_sI ⟨rfl, rfl⟩
        have hmm := putB_mb (i := i) (v := v) hm hs
        rw [putB_putB] at hmm
        have hpb : bkOk (putB b i v) := putB_ok hb hs (by omega)
        obtain ⟨m2, r1, r2, r3, r4⟩ := isBroken_ok (K := K) (h.on fM) hq hpb hmm
        have e0 : F_X9_reads K (sI m (A + 4) (200 * q + i) (nI v)) A (nI q) = some m2 := by
          unfold F_X9_isBroken f_X9_isBroken at r1
          cases hxx : F_X9_reads K (sI m (A + 4) (200 * q + i) (nI v)) A (nI q) with
          | none => rw [hxx] at r1; cases r1
          | some m3 =>
            rw [hxx, bind_e] at r1
            split at r1 <;> rw [(Prod.mk.inj (Option.some.inj r1)).2]
        rw [e0, bind_e]
        have s2 := (h.on fM).on r3
        have x2' := (hx.st (v := nI v)).kp r2
        have J2 : ∀ k, gJ m2 (A + 4) k = gJ m0 (A + 4) k := fun k => (r3.J (fun z => by unfold WQ at z; omega)).trans (hJ k)
        have hm2 := hmm.keep hpb.2.2.1 hq r2
        have n2 : mnF m2 A (mndU b (256 * i + v)) x2 := fun n key h1 h2 h3 => ⟨(r3.I (fun z => by unfold WQ at z; omega)).trans ((fM.I (fun z => by omega)).trans (hn n key h1 h2 h3).1), (r3.I (fun z => by unfold WQ at z; omega)).trans ((fM.I (fun z => by omega)).trans (hn n key h1 h2 h3).2)⟩
        have i27 : gI m2 A 27 = 0 ↔ sndB (putB b i v) = true := by
          unfold sndB
          cases hrs : rsB (putB b i v) with
          | inl e =>
            rw [hrs] at r4
            have hl := rs_inl hpb hrs
            rw [r4.1, nI_zero (by omega)]
            simp; omega
          | inr r =>
            rw [hrs] at r4
            rw [r4.1]
            simp
        by_cases cg : sndB (putB b i v) = true
        · rw [if_pos (i27.mpr cg)]
          have eg : mndU b (256 * i + (v + 1)) = mndU b (256 * i + v) ++ [256 * i + v] := by
            rw [← Nat.add_assoc, eU, hgk, decide_eq_true (by simpa using cw), cg, Bool.true_and, if_pos rfl]
          have el : (mndU b (256 * i + (v + 1))).length = (mndU b (256 * i + v)).length + 1 := by rw [eg, List.length_append]; rfl
          have go : ∀ (m5 : Mem), fr (fun a k => a = A ∧ (k = 34 ∨ k = 35)) m2 m5 → mnF m5 A (mndU b (256 * i + (v + 1))) x2 → ∃ m', f_X9_mendsOf_42 K A (nI q) x2 k19 f m5 (nI ((mndU b (256 * i + v)).length + 1)) (nI i) (nI (b.1 i)) (nI (v + 1)) = k19 m' (nI (mndU b (256 * i + 256)).length) (nI (i + 1)) ∧ MS K m' A ∧ KP A m0 m' ∧ (∀ k, gJ m' (A + 4) k = gJ m0 (A + 4) k) ∧ mbR m' A q b ∧ mnF m' A (mndU b (256 * i + 256)) x2 := fun m5 f5 n5 => by
            have k5 := KP.of (A := A) f5 (fun a k z => by omega)
            rw [← el]
            exact mn_42 hq hb hs hi h0 hJ0 f (v + 1) m5 v (by omega) (by omega) (s2.on f5) (x2'.kp k5) (fun k => (f5.J (fun z => by omega)).trans (J2 k)) (hm2.keep hpb.2.2.1 hq k5) n5
          unfold f_X9_mendsOf_102 f_X9_mendsOf_120 f_X9_mendsOf_126
          simp only [bd_e, nI_1]
          by_cases cx : nI (mndU b (256 * i + v)).length = x2
          · simp only [if_pos cx]
            refine go _ ((fr_sI ⟨rfl, Or.inl rfl⟩).trans (fr_sI ⟨rfl, Or.inr rfl⟩)) (fun n key h1 h2 h3 => ?_)
            have en : n = (mndU b (256 * i + v)).length := ((nI_eq (by omega) h1).mp (cx.trans h2)).symm
            rw [eg, en, List.getElem?_append_right (Nat.le_refl _), Nat.sub_self] at h3
            cases h3
            rw [show (256 * i + v) / 256 = i by omega, show (256 * i + v) % 256 = v by omega]
            exact ⟨by rw [gI_sI_n (Or.inr (by decide)), gI_sI_s], gI_sI_s⟩
          · simp only [if_neg cx]
            refine go _ ((fr_sI ⟨rfl, Or.inl rfl⟩).trans (fr_sI ⟨rfl, Or.inr rfl⟩)) (fun n key h1 h2 h3 => ?_)
            have en : n ≠ (mndU b (256 * i + v)).length := fun z => cx (by rw [h2, z])
            have hnl := (List.getElem?_eq_some_iff.mp h3).1
            rw [el] at hnl
            rw [eg, List.getElem?_append_left (by omega)] at h3
            obtain ⟨u1, u2⟩ := n2 n key h1 h2 h3
            refine ⟨?_, ?_⟩
            · rw [gI_sI_n (Or.inr (by decide)), gI_sI_s]; exact u1
            · rw [gI_sI_s, gI_sI_n (Or.inr (by decide))]; exact u2
        · rw [if_neg (fun z => cg (i27.mp z))]
          unfold f_X9_mendsOf_126
          rw [bd_e, nI_1]
          have eg : mndU b (256 * i + (v + 1)) = mndU b (256 * i + v) := by
            have cg' : sndB (putB b i v) = false := by cases hh : sndB (putB b i v) <;> simp_all
            rw [← Nat.add_assoc, eU, hgk, cg', Bool.and_false, if_neg (by decide), List.append_nil]
          rw [← eg]
          exact mn_42 hq hb hs hi h0 hJ0 f (v + 1) m2 v (by omega) (by omega) s2 x2' J2 hm2 (by rw [eg]; exact n2)
theorem mn_19 {K : Kn} {A q : Nat} {b : Bk} {x2 : Int32} (hq : q < 64) (hb : bkOk b) (hs : b.2.2.1 = true) : ∀ (f i : Nat) (m : Mem), i ≤ b.2.1 → b.2.1 - i < f → MS K m A → mbR m A q b → mnF m A (mndU b (256 * i)) x2 → ∃ m', f_X9_mendsOf_19 K A (nI q) x2 f m (nI (mndU b (256 * i)).length) (nI i) = some (nI (mndL b).length, m') ∧ MS K m' A ∧ KP A m m' ∧ mnF m' A (mndL b) x2
  | 0, _, _, _, h, _, _, _ => absurd h (Nat.not_lt_zero _)
  | f + 1, i, m, hi, hf, h, hm, hn => by
    have h200 := hb.2.2.1
    have unf : f_X9_mendsOf_19 K A (nI q) x2 (f + 1) m (nI (mndU b (256 * i)).length) (nI i) = f_X9_mendsOf_19B K A (nI q) x2 (f_X9_mendsOf_19 K A (nI q) x2 f) m (nI (mndU b (256 * i)).length) (nI i) := rfl
    rw [unf]
    unfold f_X9_mendsOf_19B
    rw [h.d4, bind_e, h.g4 (by omega), bind_e, hm.2.1]
    by_cases c : b.2.1 ≤ i
    · have e : i = b.2.1 := by omega
      subst e
      rw [if_pos ((nI_leI (by omega) (by omega)).mpr c)]
      exact ⟨m, rfl, h, KP.refl A m, hn⟩
    · rw [if_neg (fun z => c ((nI_leI (by omega) (by omega)).mp z)), byteAt_ok h (by omega) (by omega), bind_e, hm.1 i (by omega)]
      have hMX : MX A q i m m := ⟨fr.refl m, fun _ _ _ => rfl, fun z => z⟩
      obtain ⟨m1, e1, e2, e3, e4, e5, e6⟩ := mn_42 (K := K) (x2 := x2) (k19 := f_X9_mendsOf_19 K A (nI q) x2 f) (m0 := m) hq hb hs (show i < b.2.1 by omega) (hm.1 i (by omega)) trivial FU 0 m (b.1 i) (by omega) (by rw [FU_e]; omega) h hMX (fun _ => rfl) (by rw [putB_self]; exact hm) hn
      have e1 : f_X9_mendsOf_42 K A (nI q) x2 (f_X9_mendsOf_19 K A (nI q) x2 f) FU m (nI (mndU b (256 * i)).length) (nI i) (nI (b.1 i)) (0 : Int32) = _ := e1
      rw [e1, show 256 * i + 256 = 256 * (i + 1) by omega]
      obtain ⟨m2, r1, r2, r3, r4⟩ := mn_19 (K := K) (x2 := x2) hq hb hs f (i + 1) m1 (by omega) (by omega) e2 e5 (by rw [show 256 * (i + 1) = 256 * i + 256 by omega]; exact e6)
      exact ⟨m2, r1, r2, e3.trans r3, r4⟩
theorem mendsOfM {K : Kn} {m : Mem} {A q : Nat} {b : Bk} (h : MS K m A) (hq : q < 64) (hb : bkOk b) (hm : mbR m A q b) (x2 : Int32) : ∃ m', F_X9_mendsOf K m A (nI q) x2 = some (nI (mnds b).length, m') ∧ KP A m m' ∧ mnF m' A (mnds b) x2 := by
  unfold F_X9_mendsOf f_X9_mendsOf
  obtain ⟨m1, r1, r2, r3, r4⟩ := isBroken_ok h hq hb hm
  have e0 : F_X9_reads K m A (nI q) = some m1 := by
    unfold F_X9_isBroken f_X9_isBroken at r1
    cases hx : F_X9_reads K m A (nI q) with
    | none => rw [hx] at r1; cases r1
    | some m2 =>
      rw [hx, bind_e] at r1
      split at r1 <;> rw [(Prod.mk.inj (Option.some.inj r1)).2]
  rw [e0, bind_e]
  have hm1 := hm.keep hb.2.2.1 hq r2
  unfold mnds
  cases hrs : rsB b with
  | inl e =>
    rw [hrs] at r4
    obtain ⟨hl1, hl2, hl3⟩ := rs_inl hb hrs
    have hsf : sndB b = false := by unfold sndB; rw [hrs]
    rw [if_neg (fun z => by rw [r4.1] at z; have := (nI_zero (by omega)).mp z; omega), if_pos ⟨hl1, hsf⟩]
    obtain ⟨m2, q1, q2, q3, q4⟩ := mn_19 (K := K) (x2 := x2) hq hb hl1 FU 0 m1 (Nat.zero_le _) (by rw [FU_e]; have := hb.2.2.1; omega) (h.on r3) hm1 (fun n key _ _ h3 => by
      have e : mndU b (256 * 0) = [] := rfl
      rw [e] at h3
      simp at h3)
    have q1 : f_X9_mendsOf_19 K A (nI q) x2 FU m1 (0 : Int32) (0 : Int32) = _ := q1
    exact ⟨m2, q1, r2.trans q3, q4⟩
  | inr r =>
    rw [hrs] at r4
    have hst : sndB b = true := by unfold sndB; rw [hrs]
    rw [if_pos r4.1, if_neg (fun z => by rw [hst] at z; cases z.2)]
    exact ⟨m1, rfl, r2, fun n key _ _ h3 => by simp at h3⟩
theorem mmends_ok {K : Kn} {m : Mem} {A : Nat} {s : St} (hok : stOk s) (h : RM K m A s) (x k : Int32) : okM K m A (F_X9_mends K m A x k) (aMends s x k) s := by
  unfold F_X9_mends f_X9_mends aMends
  rcases isBlock_ok hok h x k with ⟨hb, hn⟩ | ⟨S, j, n, b, hs, hj, rfl, rfl, hnl, hbl, hb, hS, hbok, hm, hmb, h64, hn⟩
  · rw [hn, hb, bind_e, if_pos rfl]; exact okM.same h
  · rw [hn, hb, bind_e, if_neg (by decide), show (16 : Int32) = nI 16 from rfl, nI_mul, nI_add]
    obtain ⟨m1, r1, r2, -⟩ := mendsOfM h.1 h64 hbok hmb (-1)
    rw [r1, bind_e]
    exact okM.kp hok h r2
theorem mmend_ok {K : Kn} {m : Mem} {A : Nat} {s : St} (hok : stOk s) (h : RM K m A s) (x k i w : Int32) : okM K m A (F_X9_mend K m A x k i w) (aMend s x k i w) s := by
  unfold F_X9_mend f_X9_mend aMend
  rcases isBlock_ok hok h x k with ⟨hb, hn⟩ | ⟨S, j, n, b, hs, hj, rfl, rfl, hnl, hbl, hb, hS, hbok, hm, hmb, h64, hn⟩
  · rw [hn, hb, bind_e, if_pos rfl]; exact okM.same h
  · rw [hn, hb, bind_e, if_neg (by decide)]
    dsimp only
    rcases in_w 1 (by decide) w with ⟨hi, c1 | ⟨c1, c2⟩⟩ | ⟨hi, c1, c2⟩
    · have hi : F_X9_in w.toInt64 (0 : Int64) (1 : Int64) = some 0 := hi
      rw [hi, bind_e, if_pos rfl, if_pos c1]; exact okM.same h
    · have hi : F_X9_in w.toInt64 (0 : Int64) (1 : Int64) = some 0 := hi
      have c2 : ¬ w ≤ (1 : Int32) := c2
      rw [hi, bind_e, if_pos rfl, if_neg c1, if_neg c2]; exact okM.same h
    · have hi : F_X9_in w.toInt64 (0 : Int64) (1 : Int64) = some 1 := hi
      have c2 : w ≤ (1 : Int32) := c2
      rw [hi, bind_e, if_neg (by decide), if_neg c1, if_pos c2, show (16 : Int32) = nI 16 from rfl, nI_mul, nI_add]
      obtain ⟨m1, r1, r2, r3⟩ := mendsOfM h.1 h64 hbok hmb i
      have hlen := mnds_len hbok
      rw [r1, bind_e, bd_e, in_ok, bind_e, Int32.toInt_toInt64, Int32.toInt_toInt64]
      have e1 : (0 : Int64).toInt = 0 := rfl
      have e2 : (nI (mnds b).length - (1 : Int32)).toInt = ((mnds b).length : Int) - 1 := by
        rw [show (1 : Int32) = iZ 1 from rfl, ← iZ_nat, iZ_sub, iZ_toInt (by omega) (by omega)]
      rw [e1, e2]
      have ez : (0 : Int32).toInt = 0 := rfl
      have hf : ∀ v : Int32, okM K m A (some (v, m1)) v s := fun v => okM.kp hok h r2
      by_cases ci : i < 0
      · have h1 := (fa_lt _ _).mp ci
        rw [ez] at h1
        rw [if_neg (show ¬ (0 ≤ i.toInt ∧ i.toInt ≤ ((mnds b).length : Int) - 1) by omega), if_pos rfl, if_pos ci]; exact hf _
      · rw [if_neg ci]
        obtain ⟨a, ha, rfl, hcl⟩ := idx_nI ci
        rw [nI_toInt ha, hcl]
        by_cases c3 : a < (mnds b).length
        · obtain ⟨key, hkey⟩ := List.getElem?_eq_some_iff.mpr ⟨c3, rfl⟩ |> fun z => (⟨(mnds b)[a], z⟩ : ∃ key, (mnds b)[a]? = some key)
          obtain ⟨u1, u2⟩ := r3 a key ha rfl hkey
          rw [if_pos (show 0 ≤ (a : Int) ∧ (a : Int) ≤ ((mnds b).length : Int) - 1 by omega), if_neg (by decide), hkey]
          dsimp only
          rw [u1, u2]
          by_cases w0 : w = 0
          · rw [if_pos w0, if_pos w0]; exact hf _
          · rw [if_neg w0, if_neg w0]; exact hf _
        · rw [if_neg (show ¬ (0 ≤ (a : Int) ∧ (a : Int) ≤ ((mnds b).length : Int) - 1) by omega), if_pos rfl, List.getElem?_eq_none (by omega)]; exact hf _
