/-! ===== the reference: rounds, rounded, best ===== -/
theorem and_hi {M k j : Nat} (h : M < 2 ^ (k + j)) : M &&& (2 ^ j - 1) * 2 ^ k = M / 2 ^ k * 2 ^ k := by
  apply Nat.eq_of_testBit_eq
  intro i
  rw [Nat.testBit_and, ← Nat.shiftLeft_eq, ← Nat.shiftLeft_eq, Nat.testBit_shiftLeft, Nat.testBit_shiftLeft, Nat.testBit_two_pow_sub_one, Nat.testBit_div_two_pow]
  by_cases c : k ≤ i
  · have e : i - k + k = i := by omega
    rw [e]
    by_cases d : i - k < j
    · simp [c, d]
    · have hf : M.testBit i = false := Nat.testBit_lt_two_pow (Nat.lt_of_lt_of_le h (Nat.pow_le_pow_right (by decide) (by omega)))
      simp [hf]
  · simp [c]
/-- told by its exponent -/
theorem exp_all (b : Int64) : (b &&& (9218868437227405312 : Int64)) = (9218868437227405312 : Int64) ↔ isF b = false := by
  have hu := uN_lt b
  have e1 : b &&& (9218868437227405312 : Int64) = lN (uN b &&& 9218868437227405312) := by
    have := wb_and (a := uN b) (b := 9218868437227405312) hu (by decide)
    rw [lN_uN] at this
    exact this
  have e2 : b &&& (9223372036854775807 : Int64) = lN (uN b % 2 ^ 63) := by
    have := g_mask (a := uN b) (s := 63) rfl (by omega) hu
    rw [lN_uN] at this
    exact this
  have hm : uN b % 2 ^ 63 < 2 ^ 63 := Nat.mod_lt _ (by decide)
  have e3 : uN b &&& 9218868437227405312 = uN b % 2 ^ 63 / 2 ^ 52 * 2 ^ 52 := by
    have h1 : (9218868437227405312 : Nat) = (2 ^ 63 - 1) &&& 9218868437227405312 := by decide
    rw [h1, ← Nat.and_assoc, Nat.and_two_pow_sub_one_eq_mod]
    have := and_hi (M := uN b % 2 ^ 63) (k := 52) (j := 11) hm
    exact this
  unfold isF
  rw [e1, e2, e3]
  have i1 : lN (uN b % 2 ^ 63 / 2 ^ 52 * 2 ^ 52) = (9218868437227405312 : Int64) ↔ uN b % 2 ^ 63 / 2 ^ 52 * 2 ^ 52 = 9218868437227405312 := lN_inj (b := 9218868437227405312) (by omega) (by decide)
  have i2 : lN (uN b % 2 ^ 63) < (9218868437227405312 : Int64) ↔ uN b % 2 ^ 63 < 9218868437227405312 := by
    rw [fa_lt64, pf_lI (by omega)]
    have : (9218868437227405312 : Int64).toInt = 9218868437227405312 := by decide
    rw [this]; omega
  rw [i1]
  constructor
  · intro z
    exact decide_eq_false (fun y => by have := i2.mp y; omega)
  · intro z
    have := of_decide_eq_false z
    have : ¬ uN b % 2 ^ 63 < 9218868437227405312 := fun y => this (i2.mpr y)
    omega
theorem clear_low (b : Int64) {w : Nat} (hw : w < 64) : lshl (lshr b (nI w)) (nI w) = b &&& lshl (-1 : Int64) (nI w) := by
  unfold lshl lshr
  rw [wb_c w hw]
  apply wb_inj
  rw [Int64.toBitVec_and, Int64.toBitVec_shiftLeft, Int64.toBitVec_shiftLeft, Int64.toBitVec_shiftRight, wb_tb, wb_sm w hw]
  apply BitVec.eq_of_getLsbD_eq
  intro i hi
  have hk : (BitVec.ofNat 64 w).toNat = w := by rw [BitVec.toNat_ofNat, Nat.mod_eq_of_lt (by omega)]
  have e1 : (-1 : Int64).toBitVec = BitVec.allOnes 64 := by decide
  rw [BitVec.getLsbD_and, BitVec.shiftLeft_eq', BitVec.shiftLeft_eq', BitVec.sshiftRight_eq', hk, BitVec.getLsbD_shiftLeft, BitVec.getLsbD_shiftLeft, BitVec.getLsbD_sshiftRight, e1, BitVec.getLsbD_allOnes]
  by_cases c : i < w
  · simp [c]
  · rw [if_pos (show w + (i - w) < 64 by omega), show w + (i - w) = i by omega]
    simp [c, hi, show ¬ 64 ≤ i - w by omega, show i - w < 64 by omega]
theorem lessens_loop {K : Kn} {A w : Nat} {l : List Pt} {Q : Nat → Int32 → Prop} (hw : w < 64) : ∀ (f i : Nat) (m : Mem) (x : Int32), i ≤ l.length → l.length - i < f → MS K m A → alM m A ((l.take i).map (clrP w) ++ l.drop i) Q → ∃ m', f_X9_lessens_4 K A (nI w) f m x (nI i) = some (foldI (clrC w) x i (l.drop i), m') ∧ alM m' A (l.map (clrP w)) Q ∧ KP A m m' ∧ MS K m' A
  | 0, _, _, _, _, h, _, _ => absurd h (Nat.not_lt_zero _)
  | f + 1, i, m, x, hi, hf, h, hl => by
    have unf : f_X9_lessens_4 K A (nI w) (f + 1) m x (nI i) = f_X9_lessens_4B K A (nI w) (f_X9_lessens_4 K A (nI w) f) m x (nI i) := rfl
    rw [unf]
    unfold f_X9_lessens_4B
    have hll : ((l.take i).map (clrP w) ++ l.drop i).length = l.length := by
      rw [List.length_append, List.length_map, List.length_take, List.length_drop]; omega
    have hlen := hl.2.1
    rw [hll] at hlen
    by_cases c : l.length ≤ i
    · rw [if_pos (al_end hl (by rw [hll]; exact c) (by rw [hll]; omega)), List.drop_eq_nil_of_le c]
      rw [List.take_of_length_le c, List.drop_eq_nil_of_le c, List.append_nil] at hl
      exact ⟨m, rfl, hl, KP.refl A m, h⟩
    · obtain ⟨q, hq⟩ := get_some (l := l) (i := i) (by omega)
      have hti : ((l.take i).map (clrP w)).length = i := by rw [List.length_map, List.length_take]; omega
      have hq' : ((l.take i).map (clrP w) ++ l.drop i)[i]? = some q := by
        rw [List.getElem?_append_right (by omega), hti, Nat.sub_self, drop_get hq]; rfl
      obtain ⟨a1, a2, a3, a4, a5⟩ := al_at h hl hq'
      unfold f_X9_lessens_34 f_X9_lessens_60 f_X9_lessens_80
      rw [if_neg a1]
      simp only [a3, a5, bind_e, bd_e, nI_1, if_true, if_neg (show ¬ ((1 : Int32) = 0) by decide), add_0]
      have hi2 : i < 12040 := by omega
      rw [h.s31 hi2, h.s31 hi2]
      simp only [bind_e]
      rw [drop_get hq]
      show ∃ m', _ = some (foldI (clrC w) (clrC w x i q) (i + 1) (l.drop (i + 1)), m') ∧ _
      have step : ∀ v : Int64, v = clw w q.2 → ∃ m', f_X9_lessens_4 K A (nI w) f (sJ m (A + 20) i v) (clrC w x i q) (nI (i + 1)) = some (foldI (clrC w) (clrC w x i q) (i + 1) (l.drop (i + 1)), m') ∧ alM m' A (l.map (clrP w)) Q ∧ KP A m m' ∧ MS K m' A := fun v hv => by
        have fM : fr (fun a k => a = A + 20 ∧ k = i) m (sJ m (A + 20) i v) := fr_sJ ⟨rfl, rfl⟩
        have et : (l.take (i + 1)).map (clrP w) ++ l.drop (i + 1) = (l.take i).map (clrP w) ++ (clrP w q :: l.drop (i + 1)) := by
          rw [List.take_add_one, hq, List.map_append, List.append_assoc]; rfl
        have hl2 : alM (sJ m (A + 20) i v) A ((l.take (i + 1)).map (clrP w) ++ l.drop (i + 1)) Q := by
          rw [et]
          refine ⟨?_, ?_, fun k y hy => ?_⟩
          · rw [fM.I (fun z => by omega), hl.1, hll]
            congr 1
            rw [List.length_append, hti, List.length_cons, List.length_drop]; omega
          · rw [List.length_append, hti, List.length_cons, List.length_drop]; omega
          · by_cases ck : k = i
            · rw [ck, List.getElem?_append_right (by omega), hti, Nat.sub_self] at hy
              cases hy
              obtain ⟨u1, u2, u3⟩ := hl.2.2 i q hq'
              rw [ck]
              refine ⟨(fM.J (fun z => by omega)).trans u1, ?_, ?_⟩
              · rw [gJ_sJ_s, hv]; rfl
              · rw [fM.I (fun z => by omega)]; exact u3
            · have hy2 : ((l.take i).map (clrP w) ++ l.drop i)[k]? = some y := by
                by_cases cl : k < i
                · rw [List.getElem?_append_left (by omega)] at hy ⊢
                  exact hy
                · obtain ⟨d, hd⟩ : ∃ d, k - i = d + 1 := ⟨k - i - 1, by omega⟩
                  rw [List.getElem?_append_right (by omega), hti, hd] at hy ⊢
                  rw [drop_get hq]
                  exact hy
              exact (hl.2.2 k y hy2).on fM (fun a _ _ z => by omega)
        obtain ⟨m', r1, r2, r3, r4⟩ := lessens_loop (K := K) hw f (i + 1) _ (clrC w x i q) (by omega) (by omega) (h.on fM) hl2
        exact ⟨m', r1, r2, (KP.of fM (fun a k z => by omega)).trans r3, r4⟩
      have ec : ∀ v : Int64, v = clw w q.2 → (if lg_cmp v q.2 = 0 then x else x + 1) = clrC w x i q := fun v hv => by
        unfold clrC
        rw [← hv]
        by_cases d : v = q.2
        · rw [if_pos ((lg_cmp_eq _ _).mpr d), if_pos d]
        · rw [if_neg (fun z => d ((lg_cmp_eq _ _).mp z)), if_neg d]
      have pull : ∀ v : Int64, v = clw w q.2 → ∃ m', (if lg_cmp v q.2 = 0 then f_X9_lessens_4 K A (nI w) f (sJ m (A + 20) i v) x (nI (i + 1)) else f_X9_lessens_4 K A (nI w) f (sJ m (A + 20) i v) (x + 1) (nI (i + 1))) = some (foldI (clrC w) (clrC w x i q) (i + 1) (l.drop (i + 1)), m') ∧ alM m' A (l.map (clrP w)) Q ∧ KP A m m' ∧ MS K m' A := fun v hv => by
        have := step v hv
        rw [← ec v hv] at this ⊢
        by_cases d : lg_cmp v q.2 = 0
        · rw [if_pos d] at this; rw [if_pos d, if_pos d]; exact this
        · rw [if_neg d] at this; rw [if_neg d, if_neg d]; exact this
      have hx := exp_all q.2
      cases hF : isF q.2 with
      | false =>
        rw [if_pos ((lg_cmp_eq _ _).mpr (hx.mpr hF))]
        exact pull q.2 (by unfold clw; rw [hF, if_neg (by decide)])
      | true =>
        rw [if_neg (fun z => by have := hx.mp ((lg_cmp_eq _ _).mp z); rw [hF] at this; cases this)]
        exact pull (lshl (lshr q.2 (nI w)) (nI w)) (by unfold clw; rw [hF, if_pos rfl]; exact clear_low q.2 hw)
theorem in_52 (n : Nat) (hn1 : 1 ≤ n) (hn : n < 2147483648) (x : Int32) : (F_X9_in x.toInt64 (1 : Int64) (lN n) = some 0 ∧ (x < 1 ∨ (¬ x < 1 ∧ ¬ x ≤ nI n))) ∨ (F_X9_in x.toInt64 (1 : Int64) (lN n) = some 1 ∧ ¬ x < 1 ∧ x ≤ nI n) := by
  rw [in_ok, Int32.toInt_toInt64, pf_lI (by omega), fa_lt, fa_le, nI_toInt hn]
  have e1 : (1 : Int64).toInt = 1 := rfl
  have e2 : (1 : Int32).toInt = 1 := rfl
  rw [e1, e2]
  by_cases c : 1 ≤ x.toInt ∧ x.toInt ≤ n
  · right
    rw [if_pos c]
    exact ⟨rfl, by omega, by omega⟩
  · left
    rw [if_neg c]
    refine ⟨rfl, ?_⟩
    by_cases c1 : x.toInt < 1
    · exact Or.inl c1
    · exact Or.inr ⟨c1, by omega⟩
theorem map_srt {l : List Pt} (h : srt l) (w : Nat) : srt (l.map (clrP w)) := List.pairwise_map.mpr h
theorem map_le {l : List Pt} (h : ∀ q ∈ l, q.1 ≤ 2000000000) (w : Nat) : ∀ q ∈ l.map (clrP w), q.1 ≤ 2000000000 := fun q hq => by
  obtain ⟨y, hy, rfl⟩ := List.mem_map.mp hq
  exact h y hy
theorem lessensM {K : Kn} {m : Mem} {A w : Nat} {l : List Pt} {Q : Nat → Int32 → Prop} (hw : w < 64) (h : MS K m A) (hl : alM m A l Q) : ∃ m', F_X9_lessens K m A (nI w) = some (clrN w l, m') ∧ alM m' A (l.map (clrP w)) Q ∧ KP A m m' ∧ MS K m' A := by
  have hlen := hl.2.1
  obtain ⟨m', r1, r2⟩ := lessens_loop (K := K) (Q := Q) (l := l) hw FU 0 m 0 (Nat.zero_le _) (by rw [FU_e]; omega) h (by rw [List.take_zero, List.drop_zero]; exact hl)
  rw [List.drop_zero] at r1
  exact ⟨m', r1, r2⟩
theorem mrounds_ok {K : Kn} {m : Mem} {A : Nat} {s : St} (hok : stOk s) (h : RM K m A s) (x w : Int32) : okM K m A (F_X9_rounds K m A x w) (nRounds s x w).1 (nRounds s x w).2 := by
  unfold F_X9_rounds f_X9_rounds nRounds
  rcases isSeries_ok hok h x with ⟨hs, hn⟩ | ⟨S, hs, hn⟩
  · rw [hn, hs, bind_e, if_pos rfl]; exact okM.same h
  · rw [hn, hs, bind_e, if_neg (by decide)]
    dsimp only
    rcases in_52 52 (by decide) (by decide) w with ⟨hi, c1 | ⟨c1, c2⟩⟩ | ⟨hi, c1, c2⟩
    · have hi : F_X9_in w.toInt64 (1 : Int64) (52 : Int64) = some 0 := hi
      rw [hi, bind_e, if_pos rfl, if_pos c1]; exact okM.same h
    · have hi : F_X9_in w.toInt64 (1 : Int64) (52 : Int64) = some 0 := hi
      have c2 : ¬ w ≤ (52 : Int32) := c2
      rw [hi, bind_e, if_pos rfl, if_neg c1, if_neg c2]; exact okM.same h
    · have hi : F_X9_in w.toInt64 (1 : Int64) (52 : Int64) = some 1 := hi
      have c2' : w ≤ (52 : Int32) := c2
      rw [hi, bind_e, if_neg (by decide), if_neg c1, if_pos c2']
      obtain ⟨j, hj, rfl, hsj, hS, hm⟩ := h.at hok hs
      obtain ⟨n, hn2, rfl, hnc⟩ := idx_nI (k := w) (fun z => c1 (by rw [fa_lt] at z ⊢; have : (0 : Int32).toInt = 0 := rfl; have : (1 : Int32).toInt = 1 := rfl; omega))
      have n52 : n ≤ 52 := (nI_leI (by omega) (by omega)).mp c2
      have hr := hS.room
      obtain ⟨m1, r1, r2⟩ := hasBrokenM hj hS h.1 hm
      rw [r1, bind_e, hnc]
      by_cases cs : sndL S.2.2.2 = true
      · rw [if_pos cs, if_pos cs, if_pos rfl]
        have h1 := h.keep hok r2
        obtain ⟨m2, g1, g2, g3, ⟨g4, g5⟩, g6, -, g7, g8⟩ := gathM hok h1 hs
        rw [g1, bind_e]
        obtain ⟨m3, q1, q2, q3, q4⟩ := lessensM (w := n) (by omega) g4 g5
        have h3 := g6.keep hok q3
        obtain ⟨j', hj', hje, -, -, hm3⟩ := h3.at hok hs
        have : j' = j := ((nI_eq (by omega) (by omega)).mp hje).symm
        subst this
        rw [q1, bind_e, bd_e]
        dsimp only
        rw [q4.d0, bind_e, q4.g0 (by omega), bind_e, hm3.1]
        exact okM.from ((r2.trans g2).trans q3) (laysTold hok h3 q2 (map_srt g7 n) (map_le g8 n) hr.1 hr.2 hj)
      · rw [if_neg cs, if_neg cs]
        dsimp only
        rw [if_neg (by decide)]
        exact okM.kp hok h r2
theorem bytes4 {K : Kn} {m : Mem} {A r : Nat} {bl : List Bk} (h : MS K m A) (hl : bl.length ≤ 16) (hb : smB m A 4 r bl) : F_X9_bytesOf K m A (4 : Int32) = some (nI (sumB bl)) := by
  have := bytesOf_loop (K := K) (j := 4) h (by omega) hl hb.2.1 (fun k b hk => (hb.2.2 k b hk).2.1)
  rw [bysA_e] at this
  exact this
theorem mrounded_ok {K : Kn} {m : Mem} {A : Nat} {s : St} (hok : stOk s) (h : RM K m A s) (x w : Int32) : okM K m A (F_X9_rounded K m A x w) (aRounded s x w) s := by
  unfold F_X9_rounded f_X9_rounded aRounded
  rcases isSeries_ok hok h x with ⟨hs, hn⟩ | ⟨S, hs, hn⟩
  · rw [hn, hs, bind_e, if_pos rfl]; exact okM.same h
  · rw [hn, hs, bind_e, if_neg (by decide)]
    dsimp only
    rcases in_52 52 (by decide) (by decide) w with ⟨hi, c1 | ⟨c1, c2⟩⟩ | ⟨hi, c1, c2⟩
    · have hi : F_X9_in w.toInt64 (1 : Int64) (52 : Int64) = some 0 := hi
      rw [hi, bind_e, if_pos rfl, if_pos c1]; exact okM.same h
    · have hi : F_X9_in w.toInt64 (1 : Int64) (52 : Int64) = some 0 := hi
      have c2 : ¬ w ≤ (52 : Int32) := c2
      rw [hi, bind_e, if_pos rfl, if_neg c1, if_neg c2]; exact okM.same h
    · have hi : F_X9_in w.toInt64 (1 : Int64) (52 : Int64) = some 1 := hi
      have c2' : w ≤ (52 : Int32) := c2
      rw [hi, bind_e, if_neg (by decide), if_neg c1, if_pos c2']
      obtain ⟨j, hj, rfl, hsj, hS, hm⟩ := h.at hok hs
      obtain ⟨n, hn2, rfl, hnc⟩ := idx_nI (k := w) (fun z => c1 (by rw [fa_lt] at z ⊢; have : (0 : Int32).toInt = 0 := rfl; have : (1 : Int32).toInt = 1 := rfl; omega))
      have n52 : n ≤ 52 := (nI_leI (by omega) (by omega)).mp c2
      have hr := hS.room
      obtain ⟨m1, r1, r2⟩ := hasBrokenM hj hS h.1 hm
      rw [r1, bind_e, hnc]
      by_cases cs : sndL S.2.2.2 = true
      · rw [if_pos cs, if_pos cs, if_pos rfl]
        have h1 := h.keep hok r2
        obtain ⟨m2, g1, g2, g3, ⟨g4, g5⟩, g6, -, g7, g8⟩ := gathM hok h1 hs
        rw [g1, bind_e]
        obtain ⟨m3, q1, q2, q3, q4⟩ := lessensM (w := n) (by omega) g4 g5
        have h3 := g6.keep hok q3
        obtain ⟨j', hj', hje, -, -, hm3⟩ := h3.at hok hs
        have : j' = j := ((nI_eq (by omega) (by omega)).mp hje).symm
        subst this
        rw [q1, bind_e]
        dsimp only
        rw [q4.d0, bind_e, q4.g0 (by omega), bind_e, hm3.1]
        obtain ⟨m4, e1, e2, e3, e4, e5⟩ := packs_ok q4 q2 (map_srt g7 n) (map_le g8 n) hr.1 hr.2
        rw [e1, bind_e]
        unfold byA
        have hk := ((r2.trans g2).trans q3).trans e2
        cases hp : packA S.1 ((allP S).map (clrP n)) with
        | none => exact okM.kp hok h hk
        | some S' =>
          have h16 := (packL_ok (srOk_new hr.1 hr.2) (map_srt g7 n) (map_le g8 n) (fun q _ => by show (-1 : Int) < q.1; omega) hp).1.2.2.2.2.2.2.2.1
          dsimp only
          rw [if_pos (show (some S').isSome = true from rfl), if_neg (by decide), bytes4 (q4.on e2.1) h16 (e5 S' hp), bind_e]
          exact okM.kp hok h hk
      · rw [if_neg cs, if_neg cs]
        dsimp only
        rw [if_neg (by decide)]
        exact okM.kp hok h r2
theorem best_35 {K : Kn} {A : Nat} {l : List Pt} {x1 : Int32} {Q : Nat → Int32 → Prop} (hsrt : srt l) (hle : ∀ q ∈ l, q.1 ≤ 2000000000) : ∀ (n f r : Nat) (m : Mem) (y z : Int32), n < f → r + n = 201 → 24 ≤ r → MS K m A → alM m A l Q → ∃ m', f_X9_best_35 K A x1 f m y z (nI r) = some ((bestF l n r (y, z)).1, m') ∧ KP A m m'
  | n, 0, _, _, _, _, h, _, _, _, _ => absurd h (Nat.not_lt_zero _)
  | 0, f + 1, r, m, y, z, _, hr, _, h, _ => by
    show ∃ m', f_X9_best_35B K A x1 (f_X9_best_35 K A x1 f) m y z (nI r) = _ ∧ _
    unfold f_X9_best_35B
    rw [if_pos (show (200 : Int32) < nI r from (nI_ltI (a := 200) (by omega) (by omega)).mpr (by omega))]
    exact ⟨m, rfl, KP.refl A m⟩
  | n + 1, f + 1, r, m, y, z, hf, hr, hr24, h, hl => by
    show ∃ m', f_X9_best_35B K A x1 (f_X9_best_35 K A x1 f) m y z (nI r) = some ((bestF l n (r + 1) (if byA r l < 0 then (y, z) else if y = -1 then (nI r, byA r l) else if z ≤ byA r l then (y, z) else (nI r, byA r l))).1, m') ∧ _
    unfold f_X9_best_35B f_X9_best_66 f_X9_best_75
    obtain ⟨m1, e1, e2, e3, e4, e5⟩ := packs_ok h hl hsrt hle hr24 (show r ≤ 200 by omega)
    rw [if_neg (show ¬ (200 : Int32) < nI r from fun z => by have := (nI_ltI (a := 200) (by omega) (by omega)).mp z; omega), e1, bind_e]
    have h1 := h.on e2.1
    have go : ∀ p : Int32 × Int32, ∃ m', f_X9_best_35 K A x1 f m1 p.1 p.2 (nI (r + 1)) = some ((bestF l n (r + 1) p).1, m') ∧ KP A m m' := fun p => by
      obtain ⟨m2, q1, q2⟩ := best_35 (K := K) (x1 := x1) hsrt hle n f (r + 1) m1 p.1 p.2 (by omega) (by omega) (by omega) h1 e3
      exact ⟨m2, q1, e2.trans q2⟩
    unfold byA
    cases hp : packA r l with
    | none =>
      dsimp only
      rw [if_neg (show ¬ ((none : Option Sr).isSome = true) by decide), if_pos rfl, if_pos (show (-4 : Int32) < 0 by decide), bd_e, nI_1]
      exact go (y, z)
    | some S' =>
      have h0 := packL_ok (srOk_new hr24 (show r ≤ 200 by omega)) hsrt hle (fun q _ => by show (-1 : Int) < q.1; omega) hp
      have h16 := h0.1.2.2.2.2.2.2.2.1
      have hsum := sumB_le (bl := S'.2.2.2) (fun b hb => (h0.1.2.2.2.2.2.2.2.2.1 b hb).1)
      dsimp only
      rw [if_pos (show (some S').isSome = true from rfl), if_neg (by decide), bytes4 h1 h16 (e5 S' hp), bind_e, bind_e, bd_e, bd_e, nI_1, if_neg (show ¬ (nI (sumB S'.2.2.2) < 0) from fun z => by have := (nI_ltI (b := 0) (by omega) (by omega)).mp z; omega)]
      by_cases cy : y = -1
      · rw [if_pos cy, if_pos cy]; exact go (nI r, nI (sumB S'.2.2.2))
      · rw [if_neg cy, if_neg cy]
        by_cases cz : z ≤ nI (sumB S'.2.2.2)
        · rw [if_pos cz, if_pos cz]; exact go (y, z)
        · rw [if_neg cz, if_neg cz]; exact go (nI r, nI (sumB S'.2.2.2))
theorem mbest_ok {K : Kn} {m : Mem} {A : Nat} {s : St} (hok : stOk s) (h : RM K m A s) (x : Int32) : okM K m A (F_X9_best K m A x) (aBest s x) s := by
  unfold F_X9_best f_X9_best aBest
  rcases isSeries_ok hok h x with ⟨hs, hn⟩ | ⟨S, hs, hn⟩
  · rw [hn, hs, bind_e, if_pos rfl]; exact okM.same h
  · rw [hn, hs, bind_e, if_neg (by decide)]
    obtain ⟨j, hj, rfl, hsj, hS, hm⟩ := h.at hok hs
    obtain ⟨m1, r1, r2⟩ := hasBrokenM hj hS h.1 hm
    rw [r1, bind_e]
    dsimp only
    by_cases cs : sndL S.2.2.2 = true
    · rw [if_pos cs, if_pos cs, if_pos rfl]
      have h1 := h.keep hok r2
      obtain ⟨m2, g1, g2, g3, ⟨g4, g5⟩, g6, -, g7, g8⟩ := gathM hok h1 hs
      rw [g1, bind_e]
      obtain ⟨m3, q1, q2⟩ := best_35 (K := K) (x1 := nI j) g7 g8 177 FU 24 m2 (-1) 0 (by rw [FU_e]; omega) rfl (by omega) g4 g5
      have q1 : f_X9_best_35 K A (nI j) FU m2 (-1 : Int32) (0 : Int32) (24 : Int32) = _ := q1
      rw [q1]
      exact okM.kp hok h ((r2.trans g2).trans q2)
    · rw [if_neg cs, if_neg cs, if_neg (by decide)]
      exact okM.kp hok h r2
