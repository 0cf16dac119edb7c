/-! ===== the reference gathers ===== -/
def eaM (m : Mem) (A i : Nat) (x : Pt) (Q : Nat → Int32 → Prop) : Prop := gJ m (A + 19) i = lN x.1 ∧ gJ m (A + 20) i = x.2 ∧ Q x.1 (gI m (A + 21) i)
/-- what is gathered, and where it lies -/
def alM (m : Mem) (A : Nat) (l : List Pt) (Q : Nat → Int32 → Prop) : Prop := gI m A 33 = nI l.length ∧ l.length ≤ 12040 ∧ ∀ (i : Nat) (x : Pt), l[i]? = some x → eaM m A i x Q
theorem eaM.on {W : Nat → Nat → Prop} {m m' : Mem} {A i : Nat} {x : Pt} {Q : Nat → Int32 → Prop} (h : eaM m A i x Q) (e : fr W m m') (hw : ∀ a, A + 19 ≤ a → a ≤ A + 21 → ¬ W a i) : eaM m' A i x Q := by
  obtain ⟨h1, h2, h3⟩ := h
  refine ⟨(e.J (hw _ (by omega) (by omega))).trans h1, (e.J (hw _ (by omega) (by omega))).trans h2, ?_⟩
  rw [e.I (hw _ (by omega) (by omega))]; exact h3
theorem alM.on {W : Nat → Nat → Prop} {m m' : Mem} {A : Nat} {l : List Pt} {Q : Nat → Int32 → Prop} (h : alM m A l Q) (e : fr W m m') (h33 : ¬ W A 33) (hw : ∀ a i, A + 19 ≤ a → a ≤ A + 21 → ¬ W a i) : alM m' A l Q :=
  ⟨(e.I h33).trans h.1, h.2.1, fun i x hx => (h.2.2 i x hx).on e (fun a h1 h2 => hw a i h1 h2)⟩
theorem eaM.imp {m : Mem} {A i : Nat} {x : Pt} {Q Q' : Nat → Int32 → Prop} (h : eaM m A i x Q) (hq : ∀ v, Q x.1 v → Q' x.1 v) : eaM m A i x Q' := ⟨h.1, h.2.1, hq _ h.2.2⟩
theorem alM.imp {m : Mem} {A : Nat} {l : List Pt} {Q Q' : Nat → Int32 → Prop} (h : alM m A l Q) (hq : ∀ t v, Q t v → Q' t v) : alM m A l Q' := ⟨h.1, h.2.1, fun i x hx => (h.2.2 i x hx).imp (hq x.1)⟩
def WA (A : Nat) : Nat → Nat → Prop := fun a k => (a = A ∧ (14 ≤ k ∧ k ≤ 20 ∨ 26 ≤ k ∧ k ≤ 29 ∨ k = 33)) ∨ (A + 14 ≤ a ∧ a ≤ A + 21) ∨ a = A + 6
theorem WQ_WA {A q a k : Nat} (h : WQ A q a k) : WA A a k := by unfold WQ at h; unfold WA; omega
def WG (A : Nat) : Nat → Nat → Prop := fun a k => (a = A ∧ k = 33) ∨ (A + 19 ≤ a ∧ a ≤ A + 21)
theorem WG_WA {A a k : Nat} (h : WG A a k) : WA A a k := by unfold WG at h; unfold WA; omega
theorem WG_KP {A : Nat} {m m' : Mem} (h : fr (WG A) m m') : KP A m m' := KP.of h (fun a k z => by unfold WG at z; omega)
theorem ff_iff {l : List Pt} (h : srt l) (t : Int) {i : Nat} {x : Pt} (hx : l[i]? = some x) : (x.1 : Int) < t ↔ i < ff t l := by
  constructor
  · intro z
    rcases Nat.lt_or_ge i (ff t l) with c | c
    · exact c
    · have := ff_rest h t x (List.mem_of_getElem? (i := i - ff t l) (by rw [List.getElem?_drop, Nat.add_sub_cancel' c]; exact hx))
      omega
  · intro z
    exact (ff_spec t l).1 x (List.mem_of_getElem? (i := i) (by rw [List.getElem?_take_of_lt z]; exact hx))
theorem first_loop {K : Kn} {m : Mem} {A : Nat} {l : List Pt} {Q : Nat → Int32 → Prop} {t : Int} (h : MS K m A) (hl : alM m A l Q) (hs : srt l) (h2 : ∀ q ∈ l, q.1 ≤ 2000000000) (ht1 : -9223372036854775808 ≤ t) (ht2 : t < 9223372036854775808) : ∀ (f lo hi : Nat), hi - lo < f → lo ≤ ff t l → ff t l ≤ hi → hi ≤ l.length → f_X9_firstNot_8 K m A (lZ t) f (nI lo) (nI hi) = some (nI (ff t l))
  | 0, _, _, h, _, _, _ => absurd h (Nat.not_lt_zero _)
  | f + 1, lo, hi, hf, h3, h4, h5 => by
    have unf : f_X9_firstNot_8 K m A (lZ t) (f + 1) (nI lo) (nI hi) = f_X9_firstNot_8B K m A (lZ t) (f_X9_firstNot_8 K m A (lZ t) f) (nI lo) (nI hi) := rfl
    rw [unf]
    unfold f_X9_firstNot_8B f_X9_firstNot_46
    have hlen := hl.2.1
    by_cases c : hi ≤ lo
    · rw [if_pos ((nI_leI (by omega) (by omega)).mpr c), show lo = ff t l by omega]
    rw [if_neg (fun z => c ((nI_leI (by omega) (by omega)).mp z)), bd_e, nI_add, show (2 : Int32) = nI 2 from rfl, pk_div (by omega) (by omega) (by omega), h.d30, bind_e, h.g30 (by omega), bind_e]
    obtain ⟨x, hx⟩ := get_some (l := l) (i := (lo + hi) / 2) (by omega)
    have hx2 := h2 x (List.mem_of_getElem? hx)
    have hi' := ff_iff hs t hx
    rw [(hl.2.2 _ x hx).1]
    have c1 : 0 ≤ lg_cmp (lN x.1) (lZ t) ↔ ¬ (x.1 : Int) < t := by
      rw [lg_cmp_ge, fa_le64, lZ_toInt ht1 ht2, ← lZ_nat, lZ_toInt (by omega) (by omega)]; omega
    by_cases d : (x.1 : Int) < t
    · rw [if_neg (fun z => c1.mp z d), bd_e, nI_1]
      exact first_loop h hl hs h2 ht1 ht2 f ((lo + hi) / 2 + 1) hi (by omega) (by have := hi'.mp d; omega) h4 h5
    · rw [if_pos (c1.mpr d)]
      exact first_loop h hl hs h2 ht1 ht2 f lo ((lo + hi) / 2) (by omega) h3 (by rcases Nat.lt_or_ge ((lo + hi) / 2) (ff t l) with g | g; exact absurd (hi'.mpr g) d; exact g) (by omega)
theorem firstNot_ok {K : Kn} {m : Mem} {A : Nat} {l : List Pt} {Q : Nat → Int32 → Prop} {t : Int} (h : MS K m A) (hl : alM m A l Q) (hs : srt l) (h2 : ∀ q ∈ l, q.1 ≤ 2000000000) (ht1 : -9223372036854775808 ≤ t) (ht2 : t < 9223372036854775808) : F_X9_firstNot K m A (lZ t) = some (nI (ff t l)) := by
  unfold F_X9_firstNot f_X9_firstNot
  rw [bd_e, hl.1]
  have := hl.2.1
  exact first_loop h hl hs h2 ht1 ht2 FU 0 l.length (by rw [FU_e]; omega) (Nat.zero_le _) (ff_le t l) (Nat.le_refl _)
theorem iL (x : Int32) : x.toInt64 = lZ x.toInt := by
  apply Int64.toInt_inj.mp
  have h1 := x.le_toInt
  have h2 := x.toInt_lt
  rw [Int32.toInt_toInt64, lZ_toInt (by omega) (by omega)]
theorem i32b (x : Int32) : -2147483648 ≤ x.toInt ∧ x.toInt < 2147483648 := ⟨x.le_toInt, x.toInt_lt⟩
/-- the points of a block come to what is gathered -/
theorem ga_35 {K : Kn} {A k : Nat} {x1 : Int32} {k7 : Mem → Int32 → Option Mem} {pts : List PtR} {acc : List Pt} {Q : Nat → Int32 → Prop} (hp : pts.length ≤ 800) (hacc : acc.length + pts.length ≤ 12040) (hQ : ∀ x ∈ pts, Q x.1 (nI k)) : ∀ (f i : Nat) (m : Mem), i ≤ pts.length → pts.length - i < f → MS K m A → gI m A 26 = nI pts.length → arM m A pts → alM m A (acc ++ (pts.take i).map ptV) Q → ∃ m', f_X9_gathers_35 K A x1 k7 f m (nI k) (nI i) = k7 m' (nI (k + 1)) ∧ fr (WG A) m m' ∧ alM m' A (acc ++ pts.map ptV) Q
  | 0, _, _, _, h, _, _, _, _ => absurd h (Nat.not_lt_zero _)
  | f + 1, i, m, hi, hf, h, h26, har, hal => by
    have unf : f_X9_gathers_35 K A x1 k7 (f + 1) m (nI k) (nI i) = f_X9_gathers_35B K A x1 k7 (f_X9_gathers_35 K A x1 k7 f) m (nI k) (nI i) := rfl
    rw [unf]
    unfold f_X9_gathers_35B f_X9_gathers_99
    rw [h26]
    by_cases c : pts.length ≤ i
    · rw [if_pos ((nI_leI (by omega) (by omega)).mpr c), bd_e, nI_1]
      rw [List.take_of_length_le c] at hal
      exact ⟨m, rfl, fr.refl m, hal⟩
    rw [if_neg (fun z => c ((nI_leI (by omega) (by omega)).mp z))]
    obtain ⟨x, hx⟩ := get_some (l := pts) (i := i) (by omega)
    obtain ⟨a1, a2, -⟩ := har i x hx
    have hn : (acc ++ (pts.take i).map ptV).length = acc.length + i := by
      rw [List.length_append, List.length_map, List.length_take]; omega
    have h33 := hal.1
    rw [hn] at h33
    obtain ⟨n, hnn⟩ : ∃ n, n = acc.length + i := ⟨_, rfl⟩
    rw [← hnn] at h33 hn
    have hn2 : n < 12040 := by omega
    have s1 : MS K (sJ m (A + 19) n (lN x.1)) A := h.on (fr_sJ (W := fun _ _ => True) trivial)
    have s2 : MS K (sJ (sJ m (A + 19) n (lN x.1)) (A + 20) n x.2.1) A := s1.on (fr_sJ (W := fun _ _ => True) trivial)
    rw [h.d30, bind_e, h.d21, bind_e, h.g21 (by omega), bind_e, h33, a1, h.s30 hn2, bind_e, s1.d31, bind_e, s1.d22, bind_e, s1.g22 (by omega), bind_e, gI_sJ, h33, gJ_sJ_n (Or.inl (by omega)), a2, s1.s31 hn2, bind_e, s2.d32, bind_e, gI_sJ, gI_sJ, h33, s2.s32 hn2, bind_e, bd_e, bd_e, gI_sI_n (Or.inl (by omega)), gI_sJ, gI_sJ, h33, nI_1, nI_1]
    generalize hM : sI (sI (sJ (sJ m (A + 19) n (lN x.1)) (A + 20) n x.2.1) (A + 21) n (nI k)) A 33 (nI (n + 1)) = M
    have fM : fr (fun a j => (a = A ∧ j = 33) ∨ (A + 19 ≤ a ∧ a ≤ A + 21 ∧ j = n)) m M := by
      rw [← hM]
      exact (((fr_sJ (Or.inr ⟨by omega, by omega, rfl⟩)).trans (fr_sJ (Or.inr ⟨by omega, by omega, rfl⟩))).trans (fr_sI (Or.inr ⟨by omega, by omega, rfl⟩))).trans (fr_sI (Or.inl ⟨rfl, rfl⟩))
    have e1 : gJ M (A + 19) n = lN x.1 := by rw [← hM, gJ_sI, gJ_sI, gJ_sJ_n (Or.inl (by omega)), gJ_sJ_s]
    have e2 : gJ M (A + 20) n = x.2.1 := by rw [← hM, gJ_sI, gJ_sI, gJ_sJ_s]
    have e3 : gI M (A + 21) n = nI k := by rw [← hM, gI_sI_n (Or.inl (by omega)), gI_sI_s]
    have e4 : gI M A 33 = nI (n + 1) := by rw [← hM, gI_sI_s]
    have hal2 : alM M A (acc ++ (pts.take (i + 1)).map ptV) Q := by
      have et : acc ++ (pts.take (i + 1)).map ptV = (acc ++ (pts.take i).map ptV) ++ [ptV x] := by
        rw [List.take_add_one, hx, List.map_append, List.append_assoc]; rfl
      rw [et]
      refine ⟨?_, ?_, fun q y hy => ?_⟩
      · rw [e4, List.length_append, hn]; rfl
      · rw [List.length_append, hn]; show n + 1 ≤ 12040; omega
      · by_cases hq : q < n
        · rw [List.getElem?_append_left (by omega)] at hy
          exact (hal.2.2 q y hy).on fM (fun a _ _ z => by omega)
        · have hq' : q = n := by
            have := (List.getElem?_eq_some_iff.mp hy).1
            rw [List.length_append, hn] at this
            simp at this; omega
          rw [hq', List.getElem?_append_right (by omega), hn, Nat.sub_self] at hy
          cases hy
          rw [hq']
          refine ⟨e1, e2, ?_⟩
          rw [e3]
          exact hQ x (List.mem_of_getElem? hx)
    obtain ⟨m', r1, r2, r3⟩ := ga_35 (K := K) (x1 := x1) (k7 := k7) hp hacc hQ f (i + 1) M (by omega) (by omega) (h.on fM) ((fM.I (fun z => by omega)).trans h26) (har.on fM (fun a q _ _ _ z => by omega)) hal2
    exact ⟨m', r1, (fM.mono (fun a k z => by unfold WG; omega)).trans r2, r3⟩
/-- where a point of blocks lies -/
def QB (bl : List Bk) (t : Nat) (v : Int32) : Prop := ∃ (k : Nat) (b : Bk), bl[k]? = some b ∧ v = nI k ∧ sndB b = true ∧ ∃ x ∈ ptsB b, x.1 = t
theorem blkP_take {bl : List Bk} {k : Nat} {b : Bk} (h : bl[k]? = some b) : blkP (bl.take (k + 1)) = blkP (bl.take k) ++ (ptsB b).map ptV := by
  unfold blkP
  rw [List.take_add_one, h, List.flatMap_append]
  simp
theorem blkP_len {bl : List Bk} (h : ∀ b ∈ bl, bkOk b) : (blkP bl).length ≤ 737 * bl.length := by
  induction bl with
  | nil => simp [blkP]
  | cons b bl ih =>
    have := ih (fun x hx => h x (by simp [hx]))
    have h2 := (ptsB_facts (h b (by simp))).2.2
    have e : blkP (b :: bl) = (ptsB b).map ptV ++ blkP bl := by simp [blkP]
    rw [e, List.length_append, List.length_map, List.length_cons]; omega
theorem ga_7 {K : Kn} {A j : Nat} {S : Sr} (hj : j < 4) (hS : srOk S) : ∀ (f k : Nat) (m : Mem), k ≤ S.2.2.2.length → S.2.2.2.length - k < f → MS K m A → smR m A j S → alM m A (blkP (S.2.2.2.take k)) (QB S.2.2.2) → ∃ m', f_X9_gathers_7 K A (nI j) f m (nI k) = f_X9_gathers_110 K A (nI j) FU m' (nI (20 * j)) ∧ KP A m m' ∧ fr (WA A) m m' ∧ alM m' A (blkP S.2.2.2) (QB S.2.2.2)
  | 0, _, _, _, h, _, _, _ => absurd h (Nat.not_lt_zero _)
  | f + 1, k, m, hk, hf, h, hm, hal => by
    have h16 := hS.2.2.2.2.2.2.2.1
    have unf : f_X9_gathers_7 K A (nI j) (f + 1) m (nI k) = f_X9_gathers_7B K A (nI j) (f_X9_gathers_7 K A (nI j) f) m (nI k) := rfl
    rw [unf]
    unfold f_X9_gathers_7B
    rw [h.d2, bind_e, h.g2 (by omega), bind_e, hm.2.2.1, show (20 : Int32) = nI 20 from rfl, show (16 : Int32) = nI 16 from rfl, nI_mul, nI_mul, nI_add, bd_e]
    by_cases c : S.2.2.2.length ≤ k
    · rw [if_pos ((nI_leI (by omega) (by omega)).mpr c)]
      rw [List.take_of_length_le c] at hal
      exact ⟨m, rfl, KP.refl A m, fr.refl m, hal⟩
    rw [if_neg (fun z => c ((nI_leI (by omega) (by omega)).mp z))]
    obtain ⟨b, hb⟩ := get_some (l := S.2.2.2) (i := k) (by omega)
    have hbok := (hS.2.2.2.2.2.2.2.2.1 b (List.mem_of_getElem? hb)).1
    obtain ⟨m1, r1, r2, r3, r4⟩ := isBroken_ok (q := 16 * j + k) h (by omega) hbok (hm.2.2.2.1 k b hb)
    rw [r1, bind_e]
    have hal1 := hal.on r3 (fun z => by unfold WQ at z; omega) (fun a i _ _ z => by unfold WQ at z; omega)
    have h1 := h.on r2.1
    have hm1 := hm.keep hS hj r2
    have hlen : (blkP (S.2.2.2.take k)).length ≤ 737 * k := by
      have := blkP_len (bl := S.2.2.2.take k) (fun x hx => (hS.2.2.2.2.2.2.2.2.1 x (List.mem_of_mem_take hx)).1)
      rw [List.length_take] at this
      have : min k S.2.2.2.length = k := by omega
      omega
    dsimp only
    cases hsb : sndB b with
    | true =>
      rw [if_pos rfl, if_pos rfl]
      obtain ⟨p, cc, hr⟩ := snd_rs hsb
      rw [hr] at r4
      have h737 := (ptsB_facts hbok).2.2
      obtain ⟨m2, q1, q2, q3⟩ := ga_35 (K := K) (A := A) (k := k) (x1 := nI j) (k7 := f_X9_gathers_7 K A (nI j) f) (pts := ptsB b) (acc := blkP (S.2.2.2.take k)) (Q := QB S.2.2.2) (by omega) (by omega) (fun x hx => ⟨k, b, hb, rfl, hsb, x, hx, rfl⟩) FU 0 m1 (by omega) (by rw [FU_e]; omega) h1 r4.2.2.1 r4.2.2.2.2.2.2 (by simpa using hal1)
      rw [← blkP_take hb] at q3
      have kq := WG_KP q2
      obtain ⟨m3, t1, t2, t3, t4⟩ := ga_7 hj hS f (k + 1) m2 (by omega) (by omega) (h1.on q2) (hm1.keep hS hj kq) q3
      rw [show (0 : Int32) = nI 0 from rfl, q1]
      exact ⟨m3, t1, (r2.trans kq).trans t2, ((r3.mono (fun a k z => WQ_WA z)).trans (q2.mono (fun a k z => WG_WA z))).trans t3, t4⟩
    | false =>
      rw [if_neg (by decide : ¬ (false = true)), if_neg (by decide)]
      unfold f_X9_gathers_99
      rw [bd_e, nI_1]
      have hnil : ptsB b = [] := by
        unfold sndB at hsb
        unfold ptsB
        cases hr : rsB b with
        | inl e => rfl
        | inr r => rw [hr] at hsb; simp at hsb
      have e : blkP (S.2.2.2.take (k + 1)) = blkP (S.2.2.2.take k) := by rw [blkP_take hb, hnil]; simp
      rw [← e] at hal1
      obtain ⟨m3, t1, t2, t3, t4⟩ := ga_7 hj hS f (k + 1) m1 (by omega) (by omega) h1 hm1 hal1
      exact ⟨m3, t1, r2.trans t2, (r3.mono (fun a k z => WQ_WA z)).trans t3, t4⟩
