/-! ===== ranked, least ===== -/
def cbP (l : List Pt) (z : Int) : Nat := l.countP (fun q => decide ((ordA q.2).toInt < z))
def ceP (l : List Pt) (z : Int) : Nat := l.countP (fun q => decide ((ordA q.2).toInt = z))
theorem cnt_aux (p : Int64 → Bool) : ∀ (l : List Pt) (c i : Nat), foldI (fun (x : Int32) _ (q : Pt) => if p q.2 = true then x + 1 else x) (nI c) i l = nI (c + l.countP (fun q => p q.2))
  | [], c, i => rfl
  | q :: l, c, i => by
    show foldI _ (if p q.2 = true then nI c + 1 else nI c) (i + 1) l = _
    rw [List.countP_cons]
    by_cases h : p q.2 = true
    · rw [if_pos h, if_pos h, nI_1, cnt_aux p l (c + 1) (i + 1)]; congr 1; omega
    · rw [if_neg h, if_neg h, cnt_aux p l c (i + 1)]; rfl
theorem cnt_N (p : Int64 → Bool) (l : List Pt) : cntA p l = nI (l.countP (fun q => p q.2)) := by
  have := cnt_aux p l 0 0
  rw [Nat.zero_add] at this
  exact this
theorem below_N {K : Kn} {m : Mem} {x n : Nat} {l : List Pt} (h : ptR K m x n l) (o : Int64) : F_X5_countBelow K m x o = some (nI (cbP l o.toInt)) := by
  rw [countBelow_ok h, cnt_N]
  unfold cbP
  congr 3
  funext q
  exact decide_eq_decide.mpr (fa_lt64 _ _)
theorem ord_u {b : Int64} (h : isN b = true) : (ordA b).toInt = (if uN b < 2 ^ 63 then (uN b : Int) else -((uN b : Int) - 2 ^ 63)) ∧ -((2047 * FP.Core.b64.tails : Nat) : Int) ≤ (ordA b).toInt ∧ (ordA b).toInt ≤ ((2047 * FP.Core.b64.tails : Nat) : Int) := by
  rw [isN_u, decide_eq_true_eq] at h
  have hT := tl63
  have hu := uN_lt b
  have hi := uN_int b
  have key : (ordA b).toInt = (if uN b < 2 ^ 63 then (uN b : Int) else -((uN b : Int) - 2 ^ 63)) := by
    unfold ordA
    by_cases c : uN b < 2 ^ 63
    · have c1 : ¬ b < 0 := by
        rw [fa_lt64]
        show ¬ (b.toInt < 0)
        omega
      rw [if_neg c1, if_pos c]; omega
    · have c1 : b < 0 := by
        rw [fa_lt64]
        show b.toInt < 0
        omega
      rw [if_pos c1, if_neg c]
      have e : b &&& (9223372036854775807 : Int64) = lN (uN b % 2 ^ 63) := by
        have := g_mask (a := uN b) (s := 63) rfl (by omega) hu
        rw [lN_uN] at this
        exact this
      have hm : uN b % 2 ^ 63 < 2 ^ 63 := Nat.mod_lt _ (by decide)
      rw [e, Int64.toInt_neg, pf_lI hm]
      generalize 2047 * FP.Core.b64.tails = I at *
      rw [Int.bmod_eq_of_le (by omega) (by omega)]
      omega
  refine ⟨key, ?_⟩
  rw [key]
  generalize 2047 * FP.Core.b64.tails = I at *
  split <;> omega
theorem ce_split (l : List Pt) (z : Int64) : l.countP (fun q => decide (ordA q.2 ≤ z)) = cbP l z.toInt + ceP l z.toInt := by
  unfold cbP ceP
  induction l with
  | nil => rfl
  | cons q l ih =>
    rw [List.countP_cons, List.countP_cons, List.countP_cons, ih]
    have : (ordA q.2 ≤ z) ↔ (ordA q.2).toInt ≤ z.toInt := fa_le64 _ _
    rcases Int.lt_trichotomy (ordA q.2).toInt z.toInt with c | c | c
    · rw [if_pos (decide_eq_true (this.mpr (by omega))), if_pos (decide_eq_true c), if_neg (by simp; omega)]; omega
    · rw [if_pos (decide_eq_true (this.mpr (by omega))), if_neg (by simp; omega), if_pos (decide_eq_true c)]; omega
    · rw [if_neg (by simp [this]; omega), if_neg (by simp; omega), if_neg (by simp; omega)]; omega
theorem ce_next (l : List Pt) (z : Int) : cbP l (z + 1) = cbP l z + ceP l z := by
  unfold cbP ceP
  induction l with
  | nil => rfl
  | cons q l ih =>
    rw [List.countP_cons, List.countP_cons, List.countP_cons, ih]
    rcases Int.lt_trichotomy (ordA q.2).toInt z with c | c | c
    · rw [if_pos (decide_eq_true (show (ordA q.2).toInt < z + 1 by omega)), if_pos (decide_eq_true c), if_neg (by simp; omega)]; omega
    · rw [if_pos (decide_eq_true (show (ordA q.2).toInt < z + 1 by omega)), if_neg (by simp; omega), if_pos (decide_eq_true c)]; omega
    · rw [if_neg (by simp; omega), if_neg (by simp; omega), if_neg (by simp; omega)]; omega
theorem rk_of {l1 l2 : List Pt} {v : Pt} {z : Int64} (hv : ordA v.2 = z) : rkd l1 v l2 = cbP (l1 ++ v :: l2) z.toInt + ceP l1 z.toInt := by
  unfold rkd
  rw [hv, ce_split]
  have : l2.countP (fun q => decide (ordA q.2 < z)) = cbP l2 z.toInt := by
    unfold cbP; congr 1; funext q; exact decide_eq_decide.mpr (fa_lt64 _ _)
  rw [this]
  unfold cbP
  rw [List.countP_append, List.countP_cons, if_neg (by rw [hv]; simp)]
  omega
theorem rank_79 {K : Kn} {m : Mem} {x n : Nat} {l : List Pt} (h : ptR K m x n l) {x1 : Int32} {z : Int64} : ∀ (f i left : Nat), i ≤ l.length → l.length - i < f → left < ceP (l.drop i) z.toInt →
    ∃ v l1 l2, f_X5_ranked_79 K m x x1 f z (nI left) (nI i) = some v.2 ∧ l.drop i = l1 ++ v :: l2 ∧ ordA v.2 = z ∧ ceP l1 z.toInt = left
  | 0, _, _, _, h, _ => absurd h (Nat.not_lt_zero _)
  | f + 1, i, left, hi, hf, hlt => by
    have unf : f_X5_ranked_79 K m x x1 (f + 1) z (nI left) (nI i) = f_X5_ranked_79B K m x x1 (f_X5_ranked_79 K m x x1 f) z (nI left) (nI i) := rfl
    rw [unf]
    unfold f_X5_ranked_79B f_X5_ranked_119
    have hl := pt_len h
    have hcl : ceP (l.drop i) z.toInt ≤ l.length := Nat.le_trans (List.countP_le_length) (by rw [List.length_drop]; omega)
    by_cases c : i = l.length
    · rw [c, List.drop_eq_nil_of_le (Nat.le_refl _)] at hlt
      exact absurd hlt (Nat.not_lt_zero _)
    · obtain ⟨q, hq⟩ := get_some (l := l) (i := i) (by omega)
      obtain ⟨c1, e1, e2, e3, e4⟩ := pt_at h hq
      rw [if_neg c1, e2, bind_e, e4, bind_e, order_ok, bind_e]
      have hlt0 := hlt
      rw [drop_get hq] at hlt ⊢
      unfold ceP at hlt
      rw [List.countP_cons] at hlt
      by_cases cz : ordA q.2 = z
      · rw [if_pos ((lg_cmp_eq _ _).mpr cz)]
        rw [if_pos (by rw [cz]; simp)] at hlt
        by_cases c0 : left = 0
        · rw [if_pos (by rw [c0]; rfl), bind_e, e4, bind_e]
          exact ⟨q, [], l.drop (i + 1), rfl, rfl, cz, by rw [c0]; rfl⟩
        · rw [if_neg (fun w => c0 ((nI_zero (by omega)).mp w))]
          simp only [bd_e]
          obtain ⟨left', rfl⟩ : ∃ k, left = k + 1 := ⟨left - 1, by omega⟩
          rw [pk_m1, nI_1]
          obtain ⟨v, l1, l2, r1, r2, r3, r4⟩ := rank_79 h (x1 := x1) (z := z) f (i + 1) left' (by omega) (by omega) (by unfold ceP; omega)
          refine ⟨v, q :: l1, l2, r1, by rw [r2]; rfl, r3, ?_⟩
          unfold ceP at r4 ⊢
          rw [List.countP_cons, if_pos (by rw [cz]; simp), r4]
      · have cz2 : ¬ (ordA q.2).toInt = z.toInt := fun w => cz ((fa_eq64 _ _).mpr w)
        rw [if_neg (fun w => cz ((lg_cmp_eq _ _).mp w))]
        rw [if_neg (by simp [cz2])] at hlt
        simp only [bd_e]
        rw [nI_1]
        obtain ⟨v, l1, l2, r1, r2, r3, r4⟩ := rank_79 h (x1 := x1) (z := z) f (i + 1) left (by omega) (by omega) (by unfold ceP; omega)
        refine ⟨v, q :: l1, l2, r1, by rw [r2]; rfl, r3, ?_⟩
        unfold ceP at r4 ⊢
        rw [List.countP_cons, if_neg (by simp [cz2]), r4]; rfl
theorem rank_67 {K : Kn} {m : Mem} {x n k : Nat} {l : List Pt} (h : ptR K m x n l) {z : Int64} (h1 : cbP l z.toInt ≤ k) (h2 : k < cbP l (z.toInt + 1)) : ∃ v, f_X5_ranked_67 K m x (nI k) z = some v.2 ∧ isRk l k v := by
  unfold f_X5_ranked_67
  have hl := pt_len h
  rw [below_N h, bind_e]
  simp only [bd_e]
  rw [pk_sub h1]
  rw [ce_next] at h2
  obtain ⟨v, l1, l2, r1, r2, r3, r4⟩ := rank_79 h (x1 := nI k) (z := z) FU 0 (k - cbP l z.toInt) (by omega) (by rw [FU_e]; omega) (by rw [List.drop_zero]; omega)
  rw [List.drop_zero] at r2
  refine ⟨v, r1, l1, l2, r2, ?_⟩
  rw [rk_of r3, ← r2, r4]; omega
theorem rank_12 {K : Kn} {m : Mem} {x n k : Nat} {l : List Pt} (h : ptR K m x n l) (hk : k < l.length) : ∀ (f c : Nat) (lo hi : Int64), c ≤ 64 → 64 - c < f → lo.toInt ≤ hi.toInt → hi.toInt - lo.toInt < 2 ^ (64 - c) → cbP l lo.toInt ≤ k → k < cbP l (hi.toInt + 1) → ∃ v, f_X5_ranked_12 K m x (nI k) f lo hi (nI c) = some v.2 ∧ isRk l k v
  | 0, _, _, _, _, h, _, _, _, _ => absurd h (Nat.not_lt_zero _)
  | f + 1, c, lo, hi, hc, hf, hle, hrg, hb1, hb2 => by
    have unf : f_X5_ranked_12 K m x (nI k) (f + 1) lo hi (nI c) = f_X5_ranked_12B K m x (nI k) (f_X5_ranked_12 K m x (nI k) f) lo hi (nI c) := rfl
    rw [unf]
    unfold f_X5_ranked_12B f_X5_ranked_61
    have hl := pt_len h
    rw [show (64 : Int32) = nI 64 from rfl]
    by_cases c1 : 64 ≤ c
    · rw [if_pos ((nI_leI (by omega) (by omega)).mpr c1)]
      have : c = 64 := by omega
      subst this
      have e : hi.toInt = lo.toInt := by rw [show 64 - 64 = 0 from rfl] at hrg; omega
      rw [e] at hb2
      exact rank_67 h hb1 hb2
    rw [if_neg (fun z => c1 ((nI_leI (by omega) (by omega)).mp z))]
    by_cases c2 : hi.toInt ≤ lo.toInt
    · rw [if_pos ((lg_cmp_ge _ _).mpr ((fa_le64 _ _).mpr c2))]
      rw [show hi.toInt = lo.toInt by omega] at hb2
      exact rank_67 h hb1 hb2
    rw [if_neg (fun z => c2 ((fa_le64 _ _).mp ((lg_cmp_ge _ _).mp z)))]
    simp only [bd_e]
    obtain ⟨a1, a2, a3⟩ := middle (x := lo) (y := hi) (by omega)
    generalize (lo ||| hi) - lshr (lo ^^^ hi) (1 : Int32) = mid at a1 a2 a3
    rw [below_N h, bind_e, nI_1]
    have hcl : cbP l mid.toInt ≤ l.length := List.countP_le_length
    have hp : (2 : Int) ^ (64 - c) = 2 * 2 ^ (64 - (c + 1)) := by rw [show 64 - c = (64 - (c + 1)) + 1 by omega, Int.pow_succ]; omega
    by_cases c3 : k < cbP l mid.toInt
    · rw [if_pos ((nI_ltI (by omega) (by omega)).mpr c3)]
      have em : (mid - (1 : Int64)).toInt = mid.toInt - 1 := by
        rw [Int64.toInt_sub]
        have r1 := Int64.le_toInt lo
        have r2 := Int64.toInt_lt mid
        show (mid.toInt - 1).bmod _ = _
        exact Int.bmod_eq_of_le (by omega) (by omega)
      refine rank_12 h hk f (c + 1) lo (mid - 1) (by omega) (by omega) (by omega) ?_ hb1 ?_
      · rw [em]
        rw [hp] at hrg
        omega
      · rw [em, show mid.toInt - 1 + 1 = mid.toInt by omega]; exact c3
    · rw [if_neg (fun z => c3 ((nI_ltI (by omega) (by omega)).mp z))]
      refine rank_12 h hk f (c + 1) mid hi (by omega) (by omega) a2 ?_ (by omega) hb2
      rw [hp] at hrg
      omega
theorem ranked_ok {K : Kn} {m : Mem} {x n k : Nat} {l : List Pt} (h : ptR K m x n l) (hN : ∀ q ∈ l, isN q.2 = true) (hk : k < l.length) : ∃ v, F_X5_ranked K m x (nI k) = some v.2 ∧ isRk l k v := by
  unfold F_X5_ranked f_X5_ranked
  have hT := tl63
  have e1 : (9218868437227405312 : Int64).toInt = ((2047 * FP.Core.b64.tails : Nat) : Int) := by rw [inf64, pf_lI (by omega)]
  have e2 : (-9218868437227405312 : Int64).toInt = -((2047 * FP.Core.b64.tails : Nat) : Int) := by
    rw [Int64.toInt_neg, e1]
    generalize FP.Core.b64.tails = T at hT
    exact Int.bmod_eq_of_le (by omega) (by omega)
  refine rank_12 h hk FU 0 _ _ (by omega) (by rw [FU_e]; omega) ?_ ?_ ?_ ?_
  · rw [e1, e2]; omega
  · rw [e1, e2]
    show _ < (2 : Int) ^ 64
    omega
  · rw [e2]
    have : cbP l (-((2047 * FP.Core.b64.tails : Nat) : Int)) = 0 := by
      unfold cbP
      rw [List.countP_eq_zero]
      intro q hq
      have := (ord_u (hN q hq)).2.1
      rw [decide_eq_true_eq]; omega
    omega
  · rw [e1]
    have : cbP l (((2047 * FP.Core.b64.tails : Nat) : Int) + 1) = l.length := by
      unfold cbP
      rw [List.countP_eq_length]
      intro q hq
      have := (ord_u (hN q hq)).2.2
      rw [decide_eq_true_eq]; omega
    omega
def aLeast (s : St) (x f t k : Int32) : Int64 := match sl s x with
  | none => nanW
  | some S => if t < f then nanW else if (0 : Int32) ≤ k then (match rkF [] (numP S f.toInt t.toInt) k.toNatClampNeg with
    | none => nanW
    | some v => v.2) else nanW
theorem least_ok {K : Kn} {m : Mem} {B : Nat} {s : St} (hok : stOk s) (h : RX K m B s) (x f t k : Int32) : okX K m B (F_X8_least K m B x f t k) (aLeast s x f t k) s := by
  unfold F_X8_least f_X8_least aLeast
  rcases isNone_c h x with ⟨hs, hn⟩ | ⟨S, hs, hn⟩
  · rw [hn, hs, bind_e, if_neg (by decide)]; exact okX.same h
  · rw [hn, hs, bind_e, if_pos rfl]
    dsimp only
    by_cases c0 : t < f
    · rw [if_pos c0, if_pos c0]; exact okX.same h
    rw [if_neg c0, if_neg c0]
    by_cases c2 : (0 : Int32) ≤ k
    · rw [if_pos c2, if_pos c2]
      obtain ⟨kk, hkk, rfl, hkc⟩ := idx_nI (show ¬ k < 0 by rw [nlt32]; exact c2)
      obtain ⟨m', e1, e2, e3, e4, e5⟩ := spn hok h hs f t
      obtain ⟨m2, k1, k2, k3, k4, k5⟩ := keepN hok e3 e2
      have k2' : ptR K m2 (B + 192) 11812 (numP S f.toInt t.toInt) := k2
      have hnum : ∀ q ∈ numP S f.toInt t.toInt, isN q.2 = true := fun q hq => (List.mem_filter.mp hq).2
      have hl := pt_len k2'
      have wit : ∀ v : Int64, okX K m B (some (v, m2)) v s := fun v => ⟨m2, rfl, k3, offq_off (e4.trans k4), k5.trans e5⟩
      rw [e1, mine_o e3, bind_e, k1, bind_e, mine_o k3, bind_e, k2'.2.2.2.2.2.1, hkc]
      by_cases c3 : (numP S f.toInt t.toInt).length ≤ kk
      · rw [if_pos ((nI_leI (by omega) (by omega)).mpr c3)]
        have : rkF [] (numP S f.toInt t.toInt) kk = none := by
          cases hr : rkF [] (numP S f.toInt t.toInt) kk with
          | none => rfl
          | some v =>
            have := rk_small (rkF_is _ [] _ _ hr)
            rw [List.nil_append] at this
            omega
        rw [this]
        exact wit _
      · rw [if_neg (fun z => c3 ((nI_leI (by omega) (by omega)).mp z)), bind_e]
        obtain ⟨v, r1, r2⟩ := ranked_ok k2' hnum (k := kk) (by omega)
        rw [r1, bind_e, rkF_of r2]
        exact wit _
    · rw [if_neg c2, if_neg c2]; exact okX.same h
