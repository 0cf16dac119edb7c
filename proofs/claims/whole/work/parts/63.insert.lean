/-! ===== a point comes into a row ===== -/
theorem insL {K : Kn} {x n t place : Nat} {v : Int64} {l : List Pt} (hK1 : K (x + 1) = some (.inr (0, n))) (hK2 : K (x + 2) = some (.inr (1, n))) (hn : n ≤ 20000) (hl : l.length < n) (hp : place ≤ l.length) : ∀ (f i : Nat) (m : Mem), place ≤ i → i ≤ l.length → i - place < f → gR m x 0 = some (x + 1) → gR m x 1 = some (x + 2) → gI m x 2 = nI l.length → (∀ (j : Nat) (q : Pt), j < i → l[j]? = some q → gI m (x + 1) j = nI q.1 ∧ gJ m (x + 2) j = q.2) → (∀ (j : Nat) (q : Pt), i < j → l[j - 1]? = some q → gI m (x + 1) j = nI q.1 ∧ gJ m (x + 2) j = q.2) →
    ∃ m', f_X5_insert_57 K x (nI t) v f m (nI place) (nI i) = some (1, m') ∧ gR m' x 0 = some (x + 1) ∧ gR m' x 1 = some (x + 2) ∧ gI m' x 2 = nI (l.length + 1) ∧ (∀ (j : Nat) (q : Pt), (l.take place ++ (t, v) :: l.drop place)[j]? = some q → gI m' (x + 1) j = nI q.1 ∧ gJ m' (x + 2) j = q.2) ∧ eqOn (off x 3) m m' ∧ szm m' = szm m
  | 0, _, _, _, _, h, _, _, _, _, _ => absurd h (Nat.not_lt_zero _)
  | f + 1, i, m, hpi, hi, hf, g0, g1, g2, ha, hb => by
    have unf : f_X5_insert_57 K x (nI t) v (f + 1) m (nI place) (nI i) = f_X5_insert_57B K x (nI t) v (f_X5_insert_57 K x (nI t) v f) m (nI place) (nI i) := rfl
    rw [unf]
    unfold f_X5_insert_57B
    by_cases c : i ≤ place
    · have hip : i = place := by omega
      subst hip
      rw [if_pos ((nI_leI (by omega) (by omega)).mpr c), ldA_n g0 hK1, bind_e, asI_n (lenK_of hK1) (by omega) (by omega), bind_e, ldA_n (b := x + 2) (by exact g1) hK2, bind_e, asJ_n (lenK_of hK2) (by omega) (by omega), bind_e]
      simp only [bd_e]
      rw [gI_sJ, gI_sI_n (Or.inl (by omega)), g2, nI_1]
      refine ⟨_, rfl, g0, g1, gI_sI_s, fun j q hq => ?_, fun q hq k => ?_, rfl⟩
      · rw [gI_sI_n (Or.inl (by omega)), gI_sJ, gI_sIa, gJ_sI, gJ_sJa, gJ_sI]
        rw [getE_ins hp] at hq
        by_cases c1 : j < i
        · rw [if_pos c1] at hq
          rw [if_neg (by omega), if_neg (by omega)]
          exact ha j q c1 hq
        · rw [if_neg c1] at hq
          by_cases c2 : j = i
          · rw [if_pos c2] at hq
            rw [if_pos c2, if_pos c2]
            cases hq; exact ⟨rfl, rfl⟩
          · rw [if_neg c2] at hq
            rw [if_neg c2, if_neg c2]
            exact hb j q (by omega) hq
      · have := off3 hq
        exact ⟨by rw [gI_sI_n (Or.inl this.1), gI_sJ, gI_sI_n (Or.inl this.2.1)], by rw [gJ_sI, gJ_sJ_n (Or.inl this.2.2), gJ_sI], rfl⟩
    · rw [if_neg (fun z => c ((nI_leI (by omega) (by omega)).mp z)), ldA_n g0 hK1, bind_e, bind_e, show nI i - (1 : Int32) = nI (i - 1) from pk_sub (b := 1) (by omega), alI_n (lenK_of hK1) (by omega) (by omega), bind_e, asI_n (lenK_of hK1) (by omega) (by omega), bind_e, ldA_n (b := x + 2) (by exact g1) hK2, bind_e, bind_e, alJ_n (lenK_of hK2) (by omega) (by omega), bind_e, asJ_n (lenK_of hK2) (by omega) (by omega), bind_e]
      simp only [bd_e]
      rw [show nI i + (-1 : Int32) = nI (i - 1) by rw [show i = (i - 1) + 1 by omega, pk_m1]; rfl]
      obtain ⟨q0, hq0⟩ : ∃ q, l[i - 1]? = some q := ⟨l[i - 1]'(by omega), List.getElem?_eq_getElem (by omega)⟩
      obtain ⟨v1, v2⟩ := ha (i - 1) q0 (by omega) hq0
      rw [v1, gJ_sI, v2]
      obtain ⟨m', e1, e2, e3, e4, e5, e6, e7⟩ := insL hK1 hK2 hn hl hp f (i - 1) (sJ (sI m (x + 1) i (nI q0.1)) (x + 2) i q0.2) (by omega) (by omega) (by omega) g0 g1 (by rw [gI_sJ, gI_sI_n (Or.inl (by omega))]; exact g2) (fun j q hj hq => by
        rw [gI_sJ, gI_sI_n (Or.inr (by omega)), gJ_sJ_n (Or.inr (by omega)), gJ_sI]
        exact ha j q (by omega) hq) (fun j q hj hq => by
        rw [gI_sJ, gI_sIa, gJ_sJa, gJ_sI]
        by_cases c2 : j = i
        · rw [if_pos c2, if_pos c2]
          rw [c2] at hq
          rw [hq0] at hq
          cases hq; exact ⟨rfl, rfl⟩
        · rw [if_neg c2, if_neg c2]
          exact hb j q (by omega) hq)
      refine ⟨m', e1, e2, e3, e4, e5, eqOn.trans (fun q hq k => ?_) e6, e7⟩
      have := off3 hq
      exact ⟨by rw [gI_sJ, gI_sI_n (Or.inl this.2.1)], by rw [gJ_sJ_n (Or.inl this.2.2), gJ_sI], rfl⟩
theorem insert_ok {K : Kn} {m : Mem} {x n : Nat} {l : List Pt} (h : ptR K m x n l) (hs : ∀ q ∈ l, q.1 ≤ 2000000000) {t : Nat} (ht : t ≤ 2000000000) (v : Int64) :
    (((l[ff t l]?).map Prod.fst = some t ∨ l.length < n) → ∃ m', F_X5_insert K m x (nI t) v = some (1, m') ∧ ptR K m' x n (insA l t v) ∧ eqOn (off x 3) m m' ∧ szm m' = szm m) ∧
    (¬ ((l[ff t l]?).map Prod.fst = some t ∨ l.length < n) → F_X5_insert K m x (nI t) v = some (0, m)) := by
  obtain ⟨t1, t2, t3, t4, t5, t6, t7, t8, t9⟩ := id h
  have hff := ff_le t l
  have hfi := firstFrom_ok h hs (t := (t : Int)) (by omega) (by omega)
  rw [iZ_nat] at hfi
  have i37 : ¬ ((l[ff t l]?).map Prod.fst = some t) → (l.length < n → ∃ m', f_X5_insert_37 K x (nI t) v m (nI (ff t l)) = some (1, m') ∧ ptR K m' x n (insA l t v) ∧ eqOn (off x 3) m m' ∧ szm m' = szm m) ∧ (¬ l.length < n → f_X5_insert_37 K x (nI t) v m (nI (ff t l)) = some (0, m)) := by
    intro hne
    unfold f_X5_insert_37
    rw [ldA_n t1 t4, bind_e, lenK_of t4, t6]
    refine ⟨fun hl => ?_, fun hl => ?_⟩
    · rw [if_pos (show nI l.length < Int32.ofNat n from (nI_ltI (by omega) (by omega)).mpr hl)]
      simp only [bd_e]
      obtain ⟨m', e1, e2, e3, e4, e5, e6, e7⟩ := insL (t := t) (v := v) t4 t5 t8 hl hff FU l.length m hff (Nat.le_refl _) (by rw [FU_e]; omega) t1 t2 t6 (fun j q _ hq => t9 j q hq) (fun j q hj hq => by
        have := (List.getElem?_eq_some_iff.mp hq).1
        omega)
      refine ⟨m', e1, ⟨e2, e3, t3, t4, t5, ?_, ?_, t8, ?_⟩, e6, e7⟩
      · rw [e4]; unfold insA; rw [if_neg hne]; simp; congr 1; omega
      · unfold insA; rw [if_neg hne]; simp; omega
      · unfold insA; rw [if_neg hne]; exact e5
    · rw [if_neg (show ¬ nI l.length < Int32.ofNat n from fun z => hl ((nI_ltI (by omega) (by omega)).mp z))]
  unfold F_X5_insert f_X5_insert
  rw [hfi, bind_e, t6]
  by_cases c : l.length ≤ ff t l
  · rw [if_pos ((nI_leI (by omega) (by omega)).mpr c)]
    have hne : ¬ ((l[ff t l]?).map Prod.fst = some t) := by rw [List.getElem?_eq_none (by omega)]; simp
    refine ⟨fun z => (i37 hne).1 (z.resolve_left hne), fun z => (i37 hne).2 (fun w => z (Or.inr w))⟩
  · rw [if_neg (fun z => c ((nI_leI (by omega) (by omega)).mp z)), ldA_n t1 t4, bind_e]
    obtain ⟨q, hq⟩ : ∃ q, l[ff t l]? = some q := ⟨l[ff t l]'(by omega), List.getElem?_eq_getElem (by omega)⟩
    have hq2 := hs q (List.mem_of_getElem? hq)
    rw [(h.at hq).1, bind_e]
    by_cases c2 : q.1 = t
    · have hyes : (l[ff t l]?).map Prod.fst = some t := by rw [hq]; simp [c2]
      refine ⟨fun _ => ?_, fun z => absurd (Or.inl hyes) z⟩
      rw [if_pos (by rw [c2]), ldA_n t2 t5, bind_e, asJ_n (lenK_of t5) (by omega) (by omega), bind_e]
      refine ⟨_, rfl, ⟨t1, t2, t3, t4, t5, ?_, ?_, t8, fun i q' hq' => ?_⟩, fun a ha k => ⟨rfl, gJ_sJ_n (Or.inl (off3 ha).2.2), rfl⟩, rfl⟩
      · rw [gI_sJ, t6]; unfold insA; rw [if_pos hyes]; simp; congr 1; omega
      · unfold insA; rw [if_pos hyes]; simp; omega
      · unfold insA at hq'
        rw [if_pos hyes, getE_rep (by omega)] at hq'
        rw [gI_sJ, gJ_sJa]
        by_cases c3 : i = ff t l
        · rw [if_pos c3] at hq'
          cases hq'
          rw [if_pos c3, c3]
          exact ⟨by rw [(t9 _ _ hq).1, c2], rfl⟩
        · rw [if_neg c3] at hq'
          rw [if_neg c3]
          exact t9 i q' hq'
    · have hne : ¬ ((l[ff t l]?).map Prod.fst = some t) := by rw [hq]; simp [c2]
      rw [if_neg (fun z => c2 ((nI_eq (by omega) (by omega)).mp z))]
      refine ⟨fun z => (i37 hne).1 (z.resolve_left hne), fun z => (i37 hne).2 (fun w => z (Or.inr w))⟩
/-- is there one of a stamp -/
def hasA (l : List Pt) (t : Nat) : Bool := (l[ff t l]?).map Prod.fst == some t
theorem holds_ok {K : Kn} {m : Mem} {x n : Nat} {l : List Pt} (h : ptR K m x n l) (hs : ∀ q ∈ l, q.1 ≤ 2000000000) {t : Nat} (ht : t ≤ 2000000000) : F_X5_holds K m x (nI t) = some (if hasA l t = true then 1 else 0) := by
  obtain ⟨t1, t2, t3, t4, t5, t6, t7, t8, t9⟩ := id h
  have hff := ff_le t l
  have hfi := firstFrom_ok h hs (t := (t : Int)) (by omega) (by omega)
  rw [iZ_nat] at hfi
  unfold F_X5_holds f_X5_holds
  rw [hfi, bind_e, t6]
  unfold hasA
  by_cases c : l.length ≤ ff t l
  · rw [if_pos ((nI_leI (by omega) (by omega)).mpr c), List.getElem?_eq_none (by omega)]; rfl
  · rw [if_neg (fun z => c ((nI_leI (by omega) (by omega)).mp z)), ldA_n t1 t4, bind_e]
    obtain ⟨q, hq⟩ : ∃ q, l[ff t l]? = some q := ⟨l[ff t l]'(by omega), List.getElem?_eq_getElem (by omega)⟩
    have hq2 := hs q (List.mem_of_getElem? hq)
    rw [(h.at hq).1, bind_e, hq]
    by_cases c2 : q.1 = t
    · rw [if_pos (by rw [c2])]; simp [c2]
    · rw [if_neg (fun z => c2 ((nI_eq (by omega) (by omega)).mp z))]; simp [c2]; rfl
