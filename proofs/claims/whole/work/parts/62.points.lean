/-! ===== rows of points ===== -/
abbrev Pt : Type := Nat × Int64
def ptR (K : Kn) (m : Mem) (x n : Nat) (l : List Pt) : Prop := gR m x 0 = some (x + 1) ∧ gR m x 1 = some (x + 2) ∧ K x = some (.inl 4) ∧ K (x + 1) = some (.inr (0, n)) ∧ K (x + 2) = some (.inr (1, n)) ∧ gI m x 2 = nI l.length ∧ l.length ≤ n ∧ n ≤ 20000 ∧ ∀ (i : Nat) (q : Pt), l[i]? = some q → gI m (x + 1) i = nI q.1 ∧ gJ m (x + 2) i = q.2
/-- the row's shape alone -/
def ptS (K : Kn) (m : Mem) (x n : Nat) : Prop := gR m x 0 = some (x + 1) ∧ gR m x 1 = some (x + 2) ∧ K x = some (.inl 4) ∧ K (x + 1) = some (.inr (0, n)) ∧ K (x + 2) = some (.inr (1, n)) ∧ n ≤ 20000
theorem ptR.s {K : Kn} {m : Mem} {x n : Nat} {l : List Pt} (h : ptR K m x n l) : ptS K m x n := ⟨h.1, h.2.1, h.2.2.1, h.2.2.2.1, h.2.2.2.2.1, h.2.2.2.2.2.2.2.1⟩
theorem ptR.on {p : Nat → Prop} {K : Kn} {m m' : Mem} {x n : Nat} {l : List Pt} (h : ptR K m x n l) (e : eqOn p m m') (h0 : p x) (h1 : p (x + 1)) (h2 : p (x + 2)) : ptR K m' x n l := by
  obtain ⟨t1, t2, t3, t4, t5, t6, t7, t8, t9⟩ := h
  exact ⟨(e.R h0).trans t1, (e.R h0).trans t2, t3, t4, t5, (e.I h0).trans t6, t7, t8, fun i q hq => ⟨(e.I h1).trans (t9 i q hq).1, (e.J h2).trans (t9 i q hq).2⟩⟩
theorem ptS.on {p : Nat → Prop} {K : Kn} {m m' : Mem} {x n : Nat} (h : ptS K m x n) (e : eqOn p m m') (h0 : p x) : ptS K m' x n := ⟨(e.R h0).trans h.1, (e.R h0).trans h.2.1, h.2.2⟩
theorem ptS.nil {K : Kn} {m : Mem} {x n : Nat} (h : ptS K m x n) : ptR K (sI m x 2 0) x n [] := ⟨h.1, h.2.1, h.2.2.1, h.2.2.2.1, h.2.2.2.2.1, gI_sI_s, Nat.zero_le _, h.2.2.2.2.2, fun i q hq => by simp at hq⟩
theorem off3 {x q : Nat} (h : off x 3 q) : q ≠ x ∧ q ≠ x + 1 ∧ q ≠ x + 2 := by unfold off at h; omega
/-- a place of the row is read -/
theorem ptR.at {K : Kn} {m : Mem} {x n : Nat} {l : List Pt} (h : ptR K m x n l) {i : Nat} {q : Pt} (hq : l[i]? = some q) : alI K m (x + 1) (nI i) = some (nI q.1) ∧ alJ K m (x + 2) (nI i) = some q.2 := by
  obtain ⟨t1, t2, t3, t4, t5, t6, t7, t8, t9⟩ := h
  have hi : i < l.length := (List.getElem?_eq_some_iff.mp hq).1
  rw [alI_n (lenK_of t4) (by omega) (by omega), alJ_n (lenK_of t5) (by omega) (by omega), (t9 i q hq).1, (t9 i q hq).2]
  exact ⟨rfl, rfl⟩
theorem push_ok {K : Kn} {m : Mem} {x n : Nat} {l : List Pt} (h : ptR K m x n l) (hl : l.length < n) (t : Nat) (v : Int64) : ∃ m', F_X5_push K m x (nI t) v = some m' ∧ ptR K m' x n (l ++ [(t, v)]) ∧ eqOn (off x 3) m m' ∧ szm m' = szm m := by
  obtain ⟨t1, t2, t3, t4, t5, t6, t7, t8, t9⟩ := h
  unfold F_X5_push f_X5_push
  rw [ldA_n t1 t4, bind_e, lenK_of t4, t6, if_neg (show ¬ Int32.ofNat n ≤ nI l.length from fun z => by have z : nI n ≤ nI l.length := z; rw [nI_leI (by omega) (by omega)] at z; omega), bind_e, asI_n (lenK_of t4) hl (by omega)]
  rw [bind_e, ldA_n (b := x + 2) (by exact t2) t5, bind_e, gI_sI_n (Or.inl (by omega)), t6, asJ_n (lenK_of t5) hl (by omega), bind_e]
  simp only [bd_e]
  rw [gI_sJ, gI_sI_n (Or.inl (by omega)), t6, nI_1]
  refine ⟨_, rfl, ⟨t1, t2, t3, t4, t5, ?_, ?_, t8, fun i q hq => ?_⟩, fun q hq k => ?_, rfl⟩
  · rw [gI_sI_s, List.length_append]; rfl
  · rw [List.length_append]; show l.length + 1 ≤ n; omega
  · rw [gI_sI_n (Or.inl (by omega)), gI_sJ, gI_sIa, gJ_sI, gJ_sJa, gJ_sI]
    rw [List.getElem?_append] at hq
    by_cases c : i < l.length
    · rw [if_pos c] at hq
      rw [if_neg (by omega), if_neg (by omega)]
      exact t9 i q hq
    · rw [if_neg c] at hq
      have hi : i - l.length = 0 := by
        have := (List.getElem?_eq_some_iff.mp hq).1
        simp at this; omega
      rw [hi] at hq
      simp at hq
      rw [if_pos (by omega), if_pos (by omega), ← hq]
      exact ⟨rfl, rfl⟩
  · have := off3 hq
    refine ⟨by rw [gI_sI_n (Or.inl this.1), gI_sJ, gI_sI_n (Or.inl this.2.1)], by rw [gJ_sI, gJ_sJ_n (Or.inl this.2.2), gJ_sI], rfl⟩
/-- how many stamps are below one, from the first on -/
def ff (t : Int) : List Pt → Nat
  | [] => 0
  | q :: l => if (q.1 : Int) < t then ff t l + 1 else 0
theorem ff_le (t : Int) : ∀ l, ff t l ≤ l.length
  | [] => Nat.le_refl _
  | q :: l => by
    unfold ff
    split
    · have := ff_le t l; simp; omega
    · exact Nat.zero_le _
theorem ff_drop (t : Int) : ∀ (l : List Pt) (i : Nat), (∀ j q, j < i → l[j]? = some q → (q.1 : Int) < t) → i ≤ l.length → ff t l = i + ff t (l.drop i)
  | l, 0, _, _ => by simp
  | [], i + 1, _, h => absurd h (by simp)
  | q :: l, i + 1, h, hl => by
    rw [List.drop_succ_cons, ff, if_pos (h 0 q (by omega) rfl), ff_drop t l i (fun j q' hj hq => h (j + 1) q' (by omega) hq) (by simpa using hl)]
    omega
theorem firstL {K : Kn} {m : Mem} {x n : Nat} {l : List Pt} (h : ptR K m x n l) (hs : ∀ q ∈ l, q.1 ≤ 2000000000) {t : Int} (ht1 : -2147483648 ≤ t) (ht2 : t < 2147483648) : ∀ (f i : Nat), i ≤ l.length → l.length - i < f → f_X5_firstFrom_2 K m x (iZ t) f (nI i) = some (nI (i + ff t (l.drop i)))
  | 0, _, _, h => absurd h (Nat.not_lt_zero _)
  | f + 1, i, hi, hf => by
    obtain ⟨t1, t2, t3, t4, t5, t6, t7, t8, t9⟩ := id h
    have unf : f_X5_firstFrom_2 K m x (iZ t) (f + 1) (nI i) = f_X5_firstFrom_2B K m x (iZ t) (f_X5_firstFrom_2 K m x (iZ t) f) (nI i) := rfl
    rw [unf]
    unfold f_X5_firstFrom_2B f_X5_firstFrom_26
    rw [t6]
    by_cases c : l.length ≤ i
    · rw [if_pos ((nI_leI (by omega) (by omega)).mpr c), List.drop_eq_nil_of_le c]; rfl
    · rw [if_neg (fun z => c ((nI_leI (by omega) (by omega)).mp z)), ldA_n t1 t4, bind_e]
      obtain ⟨q, hq⟩ : ∃ q, l[i]? = some q := ⟨l[i], List.getElem?_eq_getElem (by omega)⟩
      have hd : l.drop i = q :: l.drop (i + 1) := by
        rw [List.drop_eq_getElem_cons (by omega)]
        congr 1
        exact (List.getElem?_eq_some_iff.mp hq).2
      rw [(h.at hq).1, bind_e, hd, ff]
      have hq2 := hs q (List.mem_of_getElem? hq)
      have cl : iZ t ≤ nI q.1 ↔ t ≤ (q.1 : Int) := by rw [fa_le, iZ_toInt ht1 ht2, nI_toInt (by omega)]
      by_cases c2 : (q.1 : Int) < t
      · rw [if_neg (fun z => absurd (cl.mp z) (by omega)), if_pos c2]
        simp only [bd_e]
        rw [nI_1, firstL h hs ht1 ht2 f (i + 1) (by omega) (by omega), show i + 1 + ff t (l.drop (i + 1)) = i + (ff t (l.drop (i + 1)) + 1) by omega]
      · rw [if_pos (cl.mpr (by omega)), if_neg c2]; rfl
theorem firstFrom_ok {K : Kn} {m : Mem} {x n : Nat} {l : List Pt} (h : ptR K m x n l) (hs : ∀ q ∈ l, q.1 ≤ 2000000000) {t : Int} (ht1 : -2147483648 ≤ t) (ht2 : t < 2147483648) : F_X5_firstFrom K m x (iZ t) = some (nI (ff t l)) := by
  have := firstL h hs ht1 ht2 FU 0 (by omega) (by have h7 := h.2.2.2.2.2.2.1; have h8 := h.2.2.2.2.2.2.2.1; rw [FU_e]; omega)
  rw [List.drop_zero, Nat.zero_add] at this
  exact this
/-- a point comes into a row by its stamp, in place of one of that stamp -/
def insA (l : List Pt) (t : Nat) (v : Int64) : List Pt := if (l[ff t l]?).map Prod.fst = some t then l.take (ff t l) ++ (t, v) :: l.drop (ff t l + 1) else l.take (ff t l) ++ (t, v) :: l.drop (ff t l)
theorem getE_ins {l : List Pt} {p : Nat} (hp : p ≤ l.length) {x : Pt} (i : Nat) : (l.take p ++ x :: l.drop p)[i]? = if i < p then l[i]? else if i = p then some x else l[i - 1]? := by
  rw [List.getElem?_append, List.length_take, Nat.min_eq_left hp]
  by_cases c : i < p
  · rw [if_pos c, if_pos c, List.getElem?_take_of_lt c]
  · rw [if_neg c, if_neg c]
    by_cases c2 : i = p
    · subst c2; simp
    · rw [if_neg c2, show i - p = (i - p - 1) + 1 by omega, List.getElem?_cons_succ, List.getElem?_drop]
      congr 1; omega
theorem getE_rep {l : List Pt} {p : Nat} (hp : p < l.length) {x : Pt} (i : Nat) : (l.take p ++ x :: l.drop (p + 1))[i]? = if i = p then some x else l[i]? := by
  rw [List.getElem?_append, List.length_take, Nat.min_eq_left (by omega)]
  by_cases c : i < p
  · rw [if_pos c, if_neg (by omega), List.getElem?_take_of_lt c]
  · rw [if_neg c]
    by_cases c2 : i = p
    · subst c2; simp
    · rw [if_neg c2, show i - p = (i - p - 1) + 1 by omega, List.getElem?_cons_succ, List.getElem?_drop]
      congr 1; omega
