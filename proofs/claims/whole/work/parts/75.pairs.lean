/-! ===== two rows side by side; the lowest bits cleared ===== -/
theorem alI_sI {K : Kn} {m : Mem} {p k a : Nat} {v i : Int32} (h : a ≠ p) : alI K (sI m p k v) a i = alI K m a i := by
  unfold alI; rw [gI_sI_n (Or.inl h)]
theorem alJ_sI {K : Kn} {m : Mem} {p k a : Nat} {v i : Int32} : alJ K (sI m p k v) a i = alJ K m a i := rfl
theorem alI_sJ {K : Kn} {m : Mem} {p k a : Nat} {v : Int64} {i : Int32} : alI K (sJ m p k v) a i = alI K m a i := rfl
theorem alJ_sJ {K : Kn} {m : Mem} {p k a : Nat} {v : Int64} {i : Int32} (h : a ≠ p) : alJ K (sJ m p k v) a i = alJ K m a i := by
  unfold alJ; rw [gJ_sJ_n (Or.inl h)]
/-- the two rows, and how far they were walked -/
def prR (K : Kn) (m : Mem) (p x y n i j : Nat) (A B : List Pt) : Prop := gR m p 0 = some x ∧ gR m p 1 = some y ∧ ptR K m x n A ∧ ptR K m y n B ∧ gI m p 2 = nI i ∧ gI m p 3 = nI j ∧ i ≤ A.length ∧ j ≤ B.length ∧ off x 3 p ∧ off y 3 p
/-- what a step tells: is it in one, in two, alike; its point -/
def enR_ (m : Mem) (p : Nat) (b1 b2 al : Bool) (q : Pt) : Prop := gI m p 4 = (if b1 = true then 1 else 0) ∧ gI m p 5 = (if b2 = true then 1 else 0) ∧ gI m p 6 = (if al = true then 1 else 0) ∧ gI m p 7 = nI q.1 ∧ gJ m p 8 = q.2
def offp (p : Nat) : Nat → Prop := fun q => q ≠ p
theorem prR.on {p : Nat → Prop} {K : Kn} {m m' : Mem} {pa x y n i j : Nat} {A B : List Pt} (h : prR K m pa x y n i j A B) (e : eqOn p m m') (h0 : p pa) (h1 : p x) (h2 : p (x + 1)) (h3 : p (x + 2)) (h4 : p y) (h5 : p (y + 1)) (h6 : p (y + 2)) : prR K m' pa x y n i j A B := by
  obtain ⟨t1, t2, t3, t4, t5, t6, t7, t8, t9, t10⟩ := h
  exact ⟨(e.R h0).trans t1, (e.R h0).trans t2, t3.on e h1 h2 h3, t4.on e h4 h5 h6, (e.I h0).trans t5, (e.I h0).trans t6, t7, t8, t9, t10⟩
theorem adv186 {K : Kn} {m : Mem} {p x y n i j : Nat} {A B : List Pt} (h : prR K m p x y n i j A B) {b1 b2 : Bool} (hb : b1 = true ∨ b2 = true) (h4 : gI m p 4 = (if b1 = true then 1 else 0)) (h5 : gI m p 5 = (if b2 = true then 1 else 0)) {a b : Pt} (ha : b1 = true → A[i]? = some a) (hbb : b2 = true → B[j]? = some b) (al : Bool) :
    ∃ m', f_X4_advance_186 K p m p (if al = true then 1 else 0) = some (1, m') ∧ prR K m' p x y n (if b1 = true then i + 1 else i) (if b2 = true then j + 1 else j) A B ∧ enR_ m' p b1 b2 al (if b1 = true then a else b) ∧ eqOn (offp p) m m' ∧ szm m' = szm m := by
  obtain ⟨t1, t2, t3, t4, t5, t6, t7, t8, t9, t10⟩ := id h
  have nx := off3 t9
  have ny := off3 t10
  have kx : ldO K m p 0 4 = some x := ldO_n t1 t3.2.2.1
  have ky : ldO K m p 1 4 = some y := ldO_n t2 t4.2.2.1
  have ax : ldA K m x 0 0 = some (x + 1) := ldA_n t3.1 t3.2.2.2.1
  have ax1 : ldA K m x 1 1 = some (x + 2) := ldA_n t3.2.1 t3.2.2.2.2.1
  have ay : ldA K m y 0 0 = some (y + 1) := ldA_n t4.1 t4.2.2.2.1
  have ay1 : ldA K m y 1 1 = some (y + 2) := ldA_n t4.2.1 t4.2.2.2.2.1
  have fr : ∀ (v2 v3 v6 v7 : Int32) (v8 : Int64), eqOn (offp p) m (sI (sI (sJ (sI (sI m p 6 v6) p 7 v7) p 8 v8) p 2 v2) p 3 v3) := fun v2 v3 v6 v7 v8 q hq k => by
    have hq : q ≠ p := hq
    exact ⟨by simp only [gI_sI_n (Or.inl hq), gI_sJ], by simp only [gJ_sI, gJ_sJ_n (Or.inl hq)], rfl⟩
  unfold f_X4_advance_186 f_X4_advance_224 f_X4_advance_262 f_X4_advance_282 f_X4_advance_303
  rw [gd_t (by cases al <;> simp)]
  rcases (show (b1 = true ∧ b2 = true) ∨ (b1 = true ∧ b2 = false) ∨ (b1 = false ∧ b2 = true) by cases b1 <;> cases b2 <;> simp at hb ⊢) with ⟨rfl, rfl⟩ | ⟨rfl, rfl⟩ | ⟨rfl, rfl⟩
  · have ha := ha rfl
    have hil := (List.getElem?_eq_some_iff.mp ha).1
    have hjl := (List.getElem?_eq_some_iff.mp (hbb rfl)).1
    obtain ⟨va, va2⟩ := t3.at ha
    rw [if_pos rfl] at h4 h5
    simp [bd_e, gI_sIa, gI_sJ, ldO_sI, ldO_sJ, ldA_sI, ldA_sJ, kx, ky, ax, ax1, ay, ay1, bind_e, t5, t6, h4, h5, alI_sI (Ne.symm nx.2.1), alJ_sI, alI_sJ, va, va2, nI_1]
    refine ⟨⟨t1, t2, t3.on (fr _ _ _ _ _) (Ne.symm nx.1) (Ne.symm nx.2.1) (Ne.symm nx.2.2), t4.on (fr _ _ _ _ _) (Ne.symm ny.1) (Ne.symm ny.2.1) (Ne.symm ny.2.2), ?_, ?_, by omega, by omega, t9, t10⟩, ⟨?_, ?_, ?_, ?_, ?_⟩, fr _ _ _ _ _, rfl⟩
    · simp [gI_sIa]
    · simp [gI_sIa]
    · simp [gI_sIa, gI_sJ, h4]
    · simp [gI_sIa, gI_sJ, h5]
    · simp [gI_sIa, gI_sJ]
    · simp [gI_sIa, gI_sJ]
    · simp [gJ_sI, gJ_sJa]
  · have ha := ha rfl
    have hil := (List.getElem?_eq_some_iff.mp ha).1
    obtain ⟨va, va2⟩ := t3.at ha
    rw [if_pos rfl] at h4
    rw [if_neg (by decide)] at h5
    simp [bd_e, gI_sIa, gI_sJ, ldO_sI, ldO_sJ, ldA_sI, ldA_sJ, kx, ky, ax, ax1, ay, ay1, bind_e, t5, t6, h4, h5, alI_sI (Ne.symm nx.2.1), alJ_sI, alI_sJ, va, va2, nI_1]
    refine ⟨⟨t1, t2, t3.on (fr _ _ _ _ _) (Ne.symm nx.1) (Ne.symm nx.2.1) (Ne.symm nx.2.2), t4.on (fr _ _ _ _ _) (Ne.symm ny.1) (Ne.symm ny.2.1) (Ne.symm ny.2.2), ?_, ?_, by omega, by omega, t9, t10⟩, ⟨?_, ?_, ?_, ?_, ?_⟩, fr _ _ _ _ _, rfl⟩
    · simp [gI_sIa]
    · simp [gI_sIa]
    · simp [gI_sIa, gI_sJ, h4]
    · simp [gI_sIa, gI_sJ, h5]
    · simp [gI_sIa, gI_sJ]
    · simp [gI_sIa, gI_sJ]
    · simp [gJ_sI, gJ_sJa]
  · have hbb := hbb rfl
    have hjl := (List.getElem?_eq_some_iff.mp hbb).1
    obtain ⟨vb, vb2⟩ := t4.at hbb
    rw [if_neg (by decide)] at h4
    rw [if_pos rfl] at h5
    simp [bd_e, gI_sIa, gI_sJ, ldO_sI, ldO_sJ, ldA_sI, ldA_sJ, kx, ky, ax, ax1, ay, ay1, bind_e, t5, t6, h4, h5, alI_sI (Ne.symm ny.2.1), alJ_sI, alI_sJ, vb, vb2, nI_1]
    refine ⟨⟨t1, t2, t3.on (fr _ _ _ _ _) (Ne.symm nx.1) (Ne.symm nx.2.1) (Ne.symm nx.2.2), t4.on (fr _ _ _ _ _) (Ne.symm ny.1) (Ne.symm ny.2.1) (Ne.symm ny.2.2), ?_, ?_, by omega, by omega, t9, t10⟩, ⟨?_, ?_, ?_, ?_, ?_⟩, fr _ _ _ _ _, rfl⟩
    · simp [gI_sIa]
    · simp [gI_sIa]
    · simp [gI_sIa, gI_sJ, h4]
    · simp [gI_sIa, gI_sJ, h5]
    · simp [gI_sIa, gI_sJ]
    · simp [gI_sIa, gI_sJ]
    · simp [gJ_sI, gJ_sJa]
theorem prR.put {K : Kn} {m : Mem} {p x y n i j k : Nat} {A B : List Pt} {v : Int32} (h : prR K m p x y n i j A B) (hk : k ≠ 2 ∧ k ≠ 3) : prR K (sI m p k v) p x y n i j A B := by
  obtain ⟨t1, t2, t3, t4, t5, t6, t7, t8, t9, t10⟩ := h
  have nx := off3 t9
  have ny := off3 t10
  have e : eqOn (offp p) m (sI m p k v) := eqOn_sI (fun z => z rfl)
  exact ⟨t1, t2, t3.on e (Ne.symm nx.1) (Ne.symm nx.2.1) (Ne.symm nx.2.2), t4.on e (Ne.symm ny.1) (Ne.symm ny.2.1) (Ne.symm ny.2.2), by rw [gI_sI_n (Or.inr (Ne.symm hk.1))]; exact t5, by rw [gI_sI_n (Or.inr (Ne.symm hk.2))]; exact t6, t7, t8, t9, t10⟩
theorem adv135 {K : Kn} {m : Mem} {p x y n i j : Nat} {A B : List Pt} (h : prR K m p x y n i j A B) {b1 b2 : Bool} (hb : b1 = true ∨ b2 = true) (h4 : gI m p 4 = (if b1 = true then 1 else 0)) {a b : Pt} (ha : b1 = true → A[i]? = some a) (hbb : b2 = true → B[j]? = some b) :
    ∃ m', f_X4_advance_135 K p m p (if b2 = true then 1 else 0) = some (1, m') ∧ prR K m' p x y n (if b1 = true then i + 1 else i) (if b2 = true then j + 1 else j) A B ∧ enR_ m' p b1 b2 (b1 && b2 && decide (a.2 = b.2)) (if b1 = true then a else b) ∧ eqOn (offp p) m m' ∧ szm m' = szm m := by
  have h' := h.put (k := 5) (v := (if b2 = true then 1 else 0)) ⟨by decide, by decide⟩
  have g4 : gI (sI m p 5 (if b2 = true then 1 else 0)) p 4 = (if b1 = true then 1 else 0) := by rw [gI_sI_n (Or.inr (by decide))]; exact h4
  have g5 : gI (sI m p 5 (if b2 = true then 1 else 0)) p 5 = (if b2 = true then 1 else 0) := gI_sI_s
  have e0 : eqOn (offp p) m (sI m p 5 (if b2 = true then 1 else 0)) := eqOn_sI (fun z => z rfl)
  have z0 : szm (sI m p 5 (if b2 = true then 1 else 0)) = szm m := rfl
  have body := adv186 h' hb g4 g5 ha hbb
  unfold f_X4_advance_135 f_X4_advance_185
  rw [gd_t (by cases b2 <;> simp)]
  simp only [bd_e]
  generalize sI m p 5 (if b2 = true then 1 else 0) = m1 at h' g4 g5 e0 z0 body ⊢
  obtain ⟨t1, t2, t3, t4, t5, t6, t7, t8, t9, t10⟩ := id h'
  have fin : ∀ al : Bool, al = (b1 && b2 && decide (a.2 = b.2)) → ∃ m', f_X4_advance_186 K p m1 p (if al = true then 1 else 0) = some (1, m') ∧ prR K m' p x y n (if b1 = true then i + 1 else i) (if b2 = true then j + 1 else j) A B ∧ enR_ m' p b1 b2 (b1 && b2 && decide (a.2 = b.2)) (if b1 = true then a else b) ∧ eqOn (offp p) m m' ∧ szm m' = szm m := by
    intro al hal
    obtain ⟨m', e1, e2, e3, e4, e5⟩ := body al
    rw [hal] at e3
    exact ⟨m', e1, e2, e3, e0.trans e4, e5.trans z0⟩
  have f0 := fin false
  have f1 := fin true
  rw [if_neg (show ¬ false = true by decide)] at f0
  rw [if_pos (show true = true from rfl)] at f1
  rw [g4, g5]
  simp only [b01]
  by_cases hb1 : b1 = false
  · rw [if_pos hb1]; exact f0 (by rw [hb1]; rfl)
  · have hb1 : b1 = true := by cases b1 <;> simp at hb1 ⊢
    rw [if_neg (by rw [hb1]; decide)]
    by_cases hb2 : b2 = false
    · rw [if_pos hb2]; exact f0 (by rw [hb1, hb2]; rfl)
    · have hb2 : b2 = true := by cases b2 <;> simp at hb2 ⊢
      rw [if_neg (by rw [hb2]; decide), ldO_n t1 t3.2.2.1, bind_e, ldA_n t3.2.1 t3.2.2.2.2.1, bind_e, t5, (t3.at (ha hb1)).2, bind_e, ldO_n t2 t4.2.2.1, bind_e, ldA_n t4.2.1 t4.2.2.2.2.1, bind_e, t6, (t4.at (hbb hb2)).2, bind_e]
      by_cases ce : a.2 = b.2
      · rw [if_pos ((lg_cmp_eq _ _).mpr ce)]; exact f1 (by rw [hb1, hb2]; simp [ce])
      · rw [if_neg (fun z => ce ((lg_cmp_eq _ _).mp z))]; exact f0 (by rw [hb1, hb2]; simp [ce])
/-- a step of the walk -/
def stP (A B : List Pt) : Option (Pt × Bool × Bool × Bool × List Pt × List Pt) := match A, B with
  | [], [] => none
  | a :: A', [] => some (a, true, false, false, A', [])
  | [], b :: B' => some (b, false, true, false, [], B')
  | a :: A', b :: B' => if a.1 < b.1 then some (a, true, false, false, A', b :: B') else if b.1 < a.1 then some (b, false, true, false, a :: A', B') else some (a, true, true, decide (a.2 = b.2), A', B')
theorem advance_ok {K : Kn} {m : Mem} {p x y n i j : Nat} {A B : List Pt} (h : prR K m p x y n i j A B) (hA : ∀ q ∈ A, q.1 ≤ 2000000000) (hB : ∀ q ∈ B, q.1 ≤ 2000000000) :
    match stP (A.drop i) (B.drop j) with
    | none => F_X4_advance K m p = some (0, m)
    | some (q, b1, b2, al, A', B') => ∃ m' i' j', F_X4_advance K m p = some (1, m') ∧ prR K m' p x y n i' j' A B ∧ A.drop i' = A' ∧ B.drop j' = B' ∧ enR_ m' p b1 b2 al q ∧ eqOn (offp p) m m' ∧ szm m' = szm m := by
  obtain ⟨t1, t2, t3, t4, t5, t6, t7, t8, t9, t10⟩ := id h
  have lA := pt_len t3
  have lB := pt_len t4
  have kx : ldO K m p 0 4 = some x := ldO_n t1 t3.2.2.1
  have ky : ldO K m p 1 4 = some y := ldO_n t2 t4.2.2.1
  have ax : ldA K m x 0 0 = some (x + 1) := ldA_n t3.1 t3.2.2.2.1
  have ay : ldA K m y 0 0 = some (y + 1) := ldA_n t4.1 t4.2.2.2.1
  have go : ∀ (b1 b2 : Bool) (a b : Pt), (b1 = true ∨ b2 = true) → (b1 = true → A[i]? = some a) → (b2 = true → B[j]? = some b) → ∃ m', f_X4_advance_135 K p (sI m p 4 (if b1 = true then 1 else 0)) p (if b2 = true then 1 else 0) = some (1, m') ∧ prR K m' p x y n (if b1 = true then i + 1 else i) (if b2 = true then j + 1 else j) A B ∧ enR_ m' p b1 b2 (b1 && b2 && decide (a.2 = b.2)) (if b1 = true then a else b) ∧ eqOn (offp p) m m' ∧ szm m' = szm m := by
    intro b1 b2 a b hb ha hbb
    obtain ⟨m', e1, e2, e3, e4, e5⟩ := adv135 (h.put (k := 4) (v := (if b1 = true then 1 else 0)) ⟨by decide, by decide⟩) hb gI_sI_s ha hbb
    exact ⟨m', e1, e2, e3, (eqOn_sI (fun z => z rfl)).trans e4, e5⟩
  have g2 : ∀ v, gI (sI m p 4 v) p 2 = nI i := fun v => by rw [gI_sI_n (Or.inr (by decide))]; exact t5
  have g3 : ∀ v, gI (sI m p 4 v) p 3 = nI j := fun v => by rw [gI_sI_n (Or.inr (by decide))]; exact t6
  have nx := off3 t9
  have ny := off3 t10
  have kx' : ∀ v, ldO K (sI m p 4 v) p 0 4 = some x := fun v => kx
  have ky' : ∀ v, ldO K (sI m p 4 v) p 1 4 = some y := fun v => ky
  have ax' : ∀ v, ldA K (sI m p 4 v) x 0 0 = some (x + 1) := fun v => ax
  have ay' : ∀ v, ldA K (sI m p 4 v) y 0 0 = some (y + 1) := fun v => ay
  have U : F_X4_advance K m p = if A.length ≤ i then (if B.length ≤ j then some (0, m) else f_X4_advance_50 K p m 0 1) else (if B.length ≤ j then f_X4_advance_50 K p m 1 0 else f_X4_advance_50 K p m 1 1) := by
    unfold F_X4_advance f_X4_advance f_X4_advance_19 f_X4_advance_39
    rw [kx, bind_e, t3.2.2.2.2.2.1, t5, ky, bind_e, t4.2.2.2.2.2.1, t6]
    by_cases ci : A.length ≤ i
    · rw [if_pos ((nI_leI (by omega) (by omega)).mpr ci), if_pos ci]
      by_cases cj : B.length ≤ j
      · rw [if_pos ((nI_leI (by omega) (by omega)).mpr cj), if_pos cj]; rfl
      · rw [if_neg (fun z => cj ((nI_leI (by omega) (by omega)).mp z)), if_neg cj]; rfl
    · rw [if_neg (fun z => ci ((nI_leI (by omega) (by omega)).mp z)), if_neg ci, bind_e, t4.2.2.2.2.2.1]
      by_cases cj : B.length ≤ j
      · rw [if_pos ((nI_leI (by omega) (by omega)).mpr cj), if_pos cj]; rfl
      · rw [if_neg (fun z => cj ((nI_leI (by omega) (by omega)).mp z)), if_neg cj]; rfl
  rw [U]
  by_cases ci : A.length ≤ i
  · rw [List.drop_eq_nil_of_le ci, if_pos ci]
    by_cases cj : B.length ≤ j
    · rw [List.drop_eq_nil_of_le cj, if_pos cj]
      rfl
    · obtain ⟨b, hb⟩ := get_some (l := B) (i := j) (by omega)
      rw [if_neg cj, drop_get hb]
      obtain ⟨m', e1, e2, e3, e4, e5⟩ := go false true b b (Or.inr rfl) (fun z => by cases z) (fun _ => hb)
      exact ⟨m', _, _, e1, e2, List.drop_eq_nil_of_le ci, rfl, e3, e4, e5⟩
  · obtain ⟨a, ha⟩ := get_some (l := A) (i := i) (by omega)
    have hac := hA a (List.mem_of_getElem? ha)
    rw [drop_get ha, if_neg ci]
    by_cases cj : B.length ≤ j
    · rw [List.drop_eq_nil_of_le cj, if_pos cj]
      obtain ⟨m', e1, e2, e3, e4, e5⟩ := go true false a a (Or.inl rfl) (fun _ => ha) (fun z => by cases z)
      exact ⟨m', _, _, e1, e2, rfl, List.drop_eq_nil_of_le cj, e3, e4, e5⟩
    · obtain ⟨b, hb⟩ := get_some (l := B) (i := j) (by omega)
      have hbc := hB b (List.mem_of_getElem? hb)
      rw [drop_get hb, if_neg cj]
      have V : f_X4_advance_50 K p m 1 1 = f_X4_advance_91 K p m 1 1 p (if b.1 < a.1 then 0 else 1) := by
        unfold f_X4_advance_50 f_X4_advance_90 f_X4_advance_86
        rw [if_neg (by decide), if_neg (by decide), kx, bind_e, ax, bind_e, t5, (t3.at ha).1, bind_e, ky, bind_e, ay, bind_e, t6, (t4.at hb).1, bind_e]
        by_cases c1 : b.1 < a.1
        · rw [if_pos ((nI_ltI (by omega) (by omega)).mpr c1), if_pos c1]
        · rw [if_neg (fun z => c1 ((nI_ltI (by omega) (by omega)).mp z)), if_neg c1]
      have W : ∀ v : Int32, (v = 0 ∨ v = 1) → f_X4_advance_91 K p m 1 1 p v = f_X4_advance_135 K p (sI m p 4 v) p (if a.1 < b.1 then 0 else 1) := by
        intro v hv
        unfold f_X4_advance_91 f_X4_advance_130 f_X4_advance_134
        rw [gd_t hv]
        simp only [bd_e]
        rw [if_neg (by decide), if_neg (by decide), ky', bind_e, ay', bind_e, g3, alI_sI (Ne.symm ny.2.1), (t4.at hb).1, bind_e, kx', bind_e, ax', bind_e, g2, alI_sI (Ne.symm nx.2.1), (t3.at ha).1, bind_e]
        by_cases c2 : a.1 < b.1
        · rw [if_pos ((nI_ltI (by omega) (by omega)).mpr c2), if_pos c2]
        · rw [if_neg (fun z => c2 ((nI_ltI (by omega) (by omega)).mp z)), if_neg c2]
      rw [V, W _ (by split <;> simp)]
      unfold stP
      dsimp only
      by_cases c1 : b.1 < a.1
      · rw [if_pos c1, if_neg (show ¬ a.1 < b.1 by omega), if_neg (show ¬ a.1 < b.1 by omega), if_pos c1]
        obtain ⟨m', e1, e2, e3, e4, e5⟩ := go false true b b (Or.inr rfl) (fun z => by cases z) (fun _ => hb)
        exact ⟨m', _, _, e1, e2, drop_get ha, rfl, e3, e4, e5⟩
      · simp only [if_neg c1]
        by_cases c2 : a.1 < b.1
        · simp only [if_pos c2]
          obtain ⟨m', e1, e2, e3, e4, e5⟩ := go true false a a (Or.inl rfl) (fun _ => ha) (fun z => by cases z)
          exact ⟨m', _, _, e1, e2, rfl, drop_get hb, e3, e4, e5⟩
        · simp only [if_neg c2]
          obtain ⟨m', e1, e2, e3, e4, e5⟩ := go true true a b (Or.inl rfl) (fun _ => ha) (fun _ => hb)
          exact ⟨m', _, _, e1, e2, rfl, rfl, e3, e4, e5⟩
/-- all steps of the walk, so many at most -/
abbrev Ent : Type := Pt × Bool × Bool × Bool
def zipP : Nat → List Pt → List Pt → List Ent
  | 0, _, _ => []
  | n + 1, A, B => match stP A B with
    | none => []
    | some (q, b1, b2, al, A', B') => (q, b1, b2, al) :: zipP n A' B'
