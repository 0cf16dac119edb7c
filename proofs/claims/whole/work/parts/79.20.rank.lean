/-! ===== the k-th least ===== -/
def rkd (l1 : List Pt) (x : Pt) (l2 : List Pt) : Nat := l1.countP (fun q => decide (ordA q.2 ≤ ordA x.2)) + l2.countP (fun q => decide (ordA q.2 < ordA x.2))
def isRk (l : List Pt) (k : Nat) (v : Pt) : Prop := ∃ l1 l2, l = l1 ++ v :: l2 ∧ rkd l1 v l2 = k
theorem cnt_mono {p q : Pt → Bool} {l : List Pt} (h : ∀ x, p x = true → q x = true) : l.countP p ≤ l.countP q := List.countP_mono_left (fun x _ hx => h x hx)
theorem rk_lt {l1 n m2 : List Pt} {v w : Pt} (h : ordA v.2 ≤ ordA w.2) : rkd l1 v (n ++ w :: m2) < rkd (l1 ++ v :: n) w m2 := by
  unfold rkd
  rw [List.countP_append, List.countP_append, List.countP_cons, List.countP_cons, if_neg (by rw [decide_eq_true_eq, nlt64]; exact h), if_pos (by rw [decide_eq_true_eq]; exact h)]
  have h1 := cnt_mono (l := l1) (p := fun q => decide (ordA q.2 ≤ ordA v.2)) (q := fun q => decide (ordA q.2 ≤ ordA w.2)) (fun x hx => by simp only [decide_eq_true_eq, fa_le64, fa_lt64] at *; omega)
  have h2 := cnt_mono (l := n) (p := fun q => decide (ordA q.2 < ordA v.2)) (q := fun q => decide (ordA q.2 ≤ ordA w.2)) (fun x hx => by simp only [decide_eq_true_eq, fa_le64, fa_lt64] at *; omega)
  have h3 := cnt_mono (l := m2) (p := fun q => decide (ordA q.2 < ordA v.2)) (q := fun q => decide (ordA q.2 < ordA w.2)) (fun x hx => by simp only [decide_eq_true_eq, fa_le64, fa_lt64] at *; omega)
  omega
theorem rk_gt {l1 n m2 : List Pt} {v w : Pt} (h : ordA w.2 < ordA v.2) : rkd (l1 ++ v :: n) w m2 < rkd l1 v (n ++ w :: m2) := by
  unfold rkd
  rw [List.countP_append, List.countP_append, List.countP_cons, List.countP_cons, if_pos (show decide (ordA w.2 < ordA v.2) = true from decide_eq_true h), if_neg (show ¬ decide (ordA v.2 ≤ ordA w.2) = true by rw [decide_eq_true_eq, nle64]; exact h)]
  have h1 := cnt_mono (l := l1) (p := fun q => decide (ordA q.2 ≤ ordA w.2)) (q := fun q => decide (ordA q.2 ≤ ordA v.2)) (fun x hx => by simp only [decide_eq_true_eq, fa_le64, fa_lt64] at *; omega)
  have h2 := cnt_mono (l := n) (p := fun q => decide (ordA q.2 ≤ ordA w.2)) (q := fun q => decide (ordA q.2 < ordA v.2)) (fun x hx => by simp only [decide_eq_true_eq, fa_le64, fa_lt64] at *; omega)
  have h3 := cnt_mono (l := m2) (p := fun q => decide (ordA q.2 < ordA w.2)) (q := fun q => decide (ordA q.2 < ordA v.2)) (fun x hx => by simp only [decide_eq_true_eq, fa_le64, fa_lt64] at *; omega)
  omega
theorem rk_uniq {l : List Pt} {k : Nat} {v w : Pt} (h : isRk l k v) (h' : isRk l k w) : v = w := by
  obtain ⟨l1, l2, e1, r1⟩ := h
  obtain ⟨m1, m2, e2, r2⟩ := h'
  have key : ∀ {l1 l2 m1 m2 : List Pt} {v w : Pt}, l1 ++ v :: l2 = m1 ++ w :: m2 → l1.length < m1.length → rkd l1 v l2 ≠ rkd m1 w m2 := fun {l1 l2 m1 m2 v w} e hlt => by
    rw [List.append_eq_append_iff] at e
    rcases e with ⟨a, rfl, h2⟩ | ⟨a, rfl, h2⟩
    · cases a with
      | nil => simp at hlt
      | cons z a =>
        rw [List.cons_append, List.cons.injEq] at h2
        obtain ⟨rfl, rfl⟩ := h2
        rcases lg_tri (ordA w.2) (ordA v.2) with c | c | c
        · have := rk_gt (l1 := l1) (n := a) (m2 := m2) c; omega
        · have := rk_lt (l1 := l1) (n := a) (m2 := m2) (v := v) (w := w) (by rw [c, fa_le64]; omega); omega
        · have := rk_lt (l1 := l1) (n := a) (m2 := m2) (v := v) (w := w) (by rw [fa_lt64] at c; rw [fa_le64]; omega); omega
    · rw [List.length_append] at hlt; omega
  have e := e1.symm.trans e2
  rcases Nat.lt_trichotomy l1.length m1.length with c | c | c
  · exact absurd (r1.trans r2.symm) (key e c)
  · have := (List.append_inj e c).2
    rw [List.cons.injEq] at this
    exact this.1
  · exact absurd (r2.trans r1.symm) (key e.symm c)
/-- the search as it is meant -/
def rkF : List Pt → List Pt → Nat → Option Pt
  | _, [], _ => none
  | l1, x :: l2, k => if rkd l1 x l2 = k then some x else rkF (l1 ++ [x]) l2 k
theorem rkF_is : ∀ (l2 l1 : List Pt) (k : Nat) (v : Pt), rkF l1 l2 k = some v → isRk (l1 ++ l2) k v
  | [], _, _, _, h => by cases h
  | x :: l2, l1, k, v, h => by
    unfold rkF at h
    by_cases c : rkd l1 x l2 = k
    · rw [if_pos c] at h
      cases h
      exact ⟨l1, l2, rfl, c⟩
    · rw [if_neg c] at h
      have := rkF_is l2 (l1 ++ [x]) k v h
      rw [List.append_assoc] at this
      exact this
theorem rkF_ex : ∀ (l2 l1 : List Pt) (k : Nat), (∃ m1 v m2, l2 = m1 ++ v :: m2 ∧ rkd (l1 ++ m1) v m2 = k) → ∃ v, rkF l1 l2 k = some v
  | [], _, _, h => by obtain ⟨m1, v, m2, e, -⟩ := h; simp at e
  | x :: l2, l1, k, h => by
    unfold rkF
    by_cases c : rkd l1 x l2 = k
    · rw [if_pos c]; exact ⟨x, rfl⟩
    · rw [if_neg c]
      obtain ⟨m1, v, m2, e, hr⟩ := h
      cases m1 with
      | nil =>
        rw [List.nil_append, List.cons.injEq] at e
        obtain ⟨rfl, rfl⟩ := e
        rw [List.append_nil] at hr
        exact absurd hr c
      | cons y m1 =>
        rw [List.cons_append, List.cons.injEq] at e
        obtain ⟨rfl, rfl⟩ := e
        exact rkF_ex _ (l1 ++ [x]) k ⟨m1, v, m2, rfl, by rw [List.append_assoc]; exact hr⟩
theorem rkF_of {l : List Pt} {k : Nat} {v : Pt} (h : isRk l k v) : rkF [] l k = some v := by
  have h' := h
  obtain ⟨l1, l2, e, hr⟩ := h
  obtain ⟨w, hw⟩ := rkF_ex l [] k ⟨l1, v, l2, e, by rw [List.nil_append]; exact hr⟩
  have := rkF_is l [] k w hw
  rw [List.nil_append] at this
  rw [hw, rk_uniq this h']
theorem rk_small {l : List Pt} {k : Nat} {v : Pt} (h : isRk l k v) : k < l.length := by
  obtain ⟨l1, l2, rfl, rfl⟩ := h
  unfold rkd
  have h1 := List.countP_le_length (p := fun q : Pt => decide (ordA q.2 ≤ ordA v.2)) (l := l1)
  have h2 := List.countP_le_length (p := fun q : Pt => decide (ordA q.2 < ordA v.2)) (l := l2)
  rw [List.length_append, List.length_cons]
  omega
/-- the middle of two words -/
theorem or_xor : ∀ a b : Nat, a + b + (a ^^^ b) = 2 * (a ||| b) := by
  intro a
  induction a using Nat.strongRecOn with
  | _ a ih =>
    intro b
    by_cases h0 : a = 0
    · subst h0; rw [Nat.zero_xor, Nat.zero_or]; omega
    · have i := ih (a / 2) (by omega) (b / 2)
      have e1 : (a ^^^ b) / 2 = a / 2 ^^^ b / 2 := Nat.xor_div_two
      have e2 : (a ||| b) / 2 = a / 2 ||| b / 2 := Nat.or_div_two
      have e3 : (a ^^^ b) % 2 = 1 ↔ ¬ (a % 2 = 1 ↔ b % 2 = 1) := Nat.xor_mod_two_eq_one
      have e4 : (a ||| b) % 2 = 1 ↔ a % 2 = 1 ∨ b % 2 = 1 := Nat.or_mod_two_eq_one
      rw [← e1, ← e2] at i
      omega
theorem sshr1 (x : Int64) : (lshr x (1 : Int32)).toInt = x.toInt / 2 := by
  unfold lshr
  have e : ((1 : Int32).toInt64 &&& 63) = 1 := by decide
  rw [e]
  show (x >>> (1 : Int64)).toBitVec.toInt = _
  rw [Int64.toBitVec_shiftRight]
  have e2 : ((1 : Int64).toBitVec.smod 64) = 1#64 := by decide
  rw [e2]
  show (x.toBitVec.sshiftRight (1#64).toNat).toInt = _
  rw [BitVec.toInt_sshiftRight, Int.shiftRight_eq_div_pow]
  rfl
theorem middle {x y : Int64} (h : x.toInt < y.toInt) : x.toInt < ((x ||| y) - lshr (x ^^^ y) (1 : Int32)).toInt ∧ ((x ||| y) - lshr (x ^^^ y) (1 : Int32)).toInt ≤ y.toInt ∧ (2 * ((x ||| y) - lshr (x ^^^ y) (1 : Int32)).toInt = x.toInt + y.toInt ∨ 2 * ((x ||| y) - lshr (x ^^^ y) (1 : Int32)).toInt = x.toInt + y.toInt + 1) := by
  have hx := uN_int x
  have hy := uN_int y
  have ho := uN_int (x ||| y)
  have hxo := uN_int (x ^^^ y)
  have eo : uN (x ||| y) = uN x ||| uN y := by
    show (x ||| y).toBitVec.toNat = _
    rw [Int64.toBitVec_or, BitVec.toNat_or]; rfl
  have ex : uN (x ^^^ y) = uN x ^^^ uN y := by
    show (x ^^^ y).toBitVec.toNat = _
    rw [Int64.toBitVec_xor, BitVec.toNat_xor]; rfl
  have hsum := or_xor (uN x) (uN y)
  have lx := uN_lt x
  have ly := uN_lt y
  have lo := uN_lt (x ||| y)
  have lxo := uN_lt (x ^^^ y)
  rw [← eo, ← ex] at hsum
  -- signs
  have m1 := BitVec.msb_eq_decide (x := (x ||| y).toBitVec)
  have m2 := BitVec.msb_eq_decide (x := (x ^^^ y).toBitVec)
  have m3 := BitVec.msb_eq_decide (x := x.toBitVec)
  have m4 := BitVec.msb_eq_decide (x := y.toBitVec)
  rw [Int64.toBitVec_or, BitVec.msb_or, m3, m4, ← Int64.toBitVec_or] at m1
  rw [Int64.toBitVec_xor, BitVec.msb_xor, m3, m4, ← Int64.toBitVec_xor] at m2
  have n1 : (9223372036854775808 ≤ uN (x ||| y)) ↔ (9223372036854775808 ≤ uN x ∨ 9223372036854775808 ≤ uN y) := by
    rw [← Bool.decide_or] at m1
    exact (decide_eq_decide.mp m1).symm
  have n2 : (9223372036854775808 ≤ uN (x ^^^ y)) ↔ ¬ (9223372036854775808 ≤ uN x ↔ 9223372036854775808 ≤ uN y) := by
    have hz : (9223372036854775808 ≤ uN (x ^^^ y)) ↔ (decide (9223372036854775808 ≤ uN x) ^^ decide (9223372036854775808 ≤ uN y)) = true := by
      have : decide (9223372036854775808 ≤ uN (x ^^^ y)) = (decide (9223372036854775808 ≤ uN x) ^^ decide (9223372036854775808 ≤ uN y)) := m2.symm
      rw [← this, decide_eq_true_eq]
    rw [hz]
    by_cases a : 9223372036854775808 ≤ uN x <;> by_cases b : 9223372036854775808 ≤ uN y <;> simp [a, b]
  have hmid : ((x ||| y) - lshr (x ^^^ y) (1 : Int32)).toInt = (x ||| y).toInt - (x ^^^ y).toInt / 2 := by
    rw [Int64.toInt_sub, sshr1]
    apply Int.bmod_eq_of_le
    · generalize uN (x ||| y) = O at *
      generalize uN (x ^^^ y) = X at *
      omega
    · generalize uN (x ||| y) = O at *
      generalize uN (x ^^^ y) = X at *
      omega
  rw [hmid]
  generalize uN (x ||| y) = O at *
  generalize uN (x ^^^ y) = X at *
  refine ⟨by omega, by omega, by omega⟩
