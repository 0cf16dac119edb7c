/-! ===== calls of the class: what is there ===== -/
theorem nz01 {b : Bool} : ((if b = true then (1 : Int32) else 0) = 0) ↔ b = false := by cases b <;> simp
/-- enter a call: no such series, or the series -/
theorem isNone_c {K : Kn} {m : Mem} {B : Nat} {s : St} (h : RX K m B s) (x : Int32) : (sl s x = none ∧ F_X8_isNone K m B x = some 1) ∨ (∃ S, sl s x = some S ∧ F_X8_isNone K m B x = some 0) := by
  have := isNone_ok h x
  cases hs : sl s x with
  | none => rw [hs] at this; exact Or.inl ⟨rfl, this⟩
  | some S => rw [hs] at this; exact Or.inr ⟨S, rfl, this⟩
def aCount (s : St) (x w : Int32) : Int32 := match sl s x with
  | none => -2
  | some S => if w < 0 then -2 else if w ≤ (7 : Int32) then (if w = 0 then nI S.1 else if w = 1 then spA S.2.2.2 else if w = 2 then nI S.2.2.2.length else if w = 3 then nI S.2.2.1.length else if w = 4 then bysA S.2.2.2 else if w = 5 then brkA S.2.2.2 else if w = 6 then nI (allP S).length else iZ S.2.1) else -2
theorem count_ok {K : Kn} {m : Mem} {B : Nat} {s : St} (hok : stOk s) (h : RX K m B s) (x w : Int32) : okX K m B (F_X8_count K m B x w) (aCount s x w) s := by
  unfold F_X8_count f_X8_count aCount
  rcases isNone_c h x with ⟨hs, hn⟩ | ⟨S, hs, hn⟩
  · rw [hn, hs, bind_e, if_neg (by decide)]; exact okX.same h
  · rw [hn, hs, bind_e, if_pos rfl]
    dsimp only
    by_cases c1 : w < 0
    · rw [if_pos c1, if_pos c1]; exact okX.same h
    rw [if_neg c1, if_neg c1]
    by_cases c2 : w ≤ (7 : Int32)
    · rw [if_pos c2, if_pos c2]
      obtain ⟨j, a, hj, rfl, hsj, hS, e1, e2, ⟨π, e3, e4⟩, e5⟩ := h.at hok hs
      rw [e1, bind_e, e2, bind_e]
      unfold f_X8_count_72 f_X8_count_77 f_X8_count_82 f_X8_count_87 f_X8_count_95 f_X8_count_100 f_X8_count_105 f_X8_count_114
      by_cases w0 : w = 0
      · rw [if_pos w0, if_pos w0, e4.2.1]; exact okX.same h
      rw [if_neg w0, if_neg w0]
      by_cases w1 : w = 1
      · rw [if_pos w1, if_pos w1, soundPoints_ok e3 e4 hS, bind_e]; exact okX.same h
      rw [if_neg w1, if_neg w1]
      by_cases w2 : w = 2
      · rw [if_pos w2, if_pos w2, e4.2.2.2.1]; exact okX.same h
      rw [if_neg w2, if_neg w2]
      by_cases w3 : w = 3
      · rw [if_pos w3, if_pos w3, ldO_n e3.2.2.1 e3.1.2.2.1, bind_e, e4.2.2.2.2.1.2.2.2.2.2.1]; exact okX.same h
      rw [if_neg w3, if_neg w3]
      by_cases w4 : w = 4
      · rw [if_pos w4, if_pos w4, bytes_ok e3 e4 hS, bind_e]; exact okX.same h
      rw [if_neg w4, if_neg w4]
      by_cases w5 : w = 5
      · rw [if_pos w5, if_pos w5, broken_ok e3 e4 hS, bind_e]; exact okX.same h
      rw [if_neg w5, if_neg w5]
      by_cases w6 : w = 6
      · rw [if_pos w6, if_pos w6]
        obtain ⟨m', g1, g2, g3, g4, g5⟩ := gathered_ok hok h hs
        rw [g1, bind_e, gd_t g2.2.2.1, g2.2.2.2.2.2.1]
        exact ⟨m', rfl, g3, offq_off g4, g5⟩
      · rw [if_neg w6, if_neg w6, e4.2.2.1]; exact okX.same h
    · rw [if_neg c2, if_neg c2]; exact okX.same h
/-- a block of a slot -/
def bko (s : St) (x k : Int32) : Option Bk := match sl s x with
  | none => none
  | some S => if k < 0 then none else S.2.2.2[k.toNatClampNeg]?
theorem idx_nI {k : Int32} (h : ¬ k < 0) : ∃ n, n < 2147483648 ∧ k = nI n ∧ k.toNatClampNeg = n := by
  obtain ⟨j, hj, rfl⟩ := nI_of h
  exact ⟨j, hj, rfl, nI_clamp hj⟩
theorem blockOf_ok {K : Kn} {m : Mem} {B : Nat} {s : St} (hok : stOk s) (h : RX K m B s) (x k : Int32) : (bko s x k = none → F_X8_blockOf K m B x k = some none) ∧ (∀ b, bko s x k = some b → ∃ S j n a π, sl s x = some S ∧ x = nI j ∧ j < 4 ∧ srOk S ∧ k = nI n ∧ n < S.2.2.2.length ∧ S.2.2.2[n]? = some b ∧ alO K m (B + 1) x 6 = some a ∧ (∃ i, i < 5 ∧ a = B + 2 + 38 * i) ∧ seS K m a π ∧ seD K m a π S ∧ F_X8_blockOf K m B x k = some (some (a + 6 + 2 * π n)) ∧ bkR K m (a + 6 + 2 * π n) b ∧ bkOk b ∧ π n < 16) := by
  unfold F_X8_blockOf f_X8_blockOf f_X8_blockOf_25 bko
  rcases isNone_c h x with ⟨hs, hn⟩ | ⟨S, hs, hn⟩
  · rw [hn, hs, bind_e, if_neg (by decide)]
    exact ⟨fun _ => rfl, fun b hb => by cases hb⟩
  · rw [hn, hs, bind_e, if_pos rfl]
    dsimp only
    by_cases c1 : k < 0
    · rw [if_pos c1, if_pos c1]; exact ⟨fun _ => rfl, fun b hb => by cases hb⟩
    rw [if_neg c1, if_neg c1]
    obtain ⟨n, hn2, rfl, hcl⟩ := idx_nI c1
    obtain ⟨j, a, hj, rfl, hsj, hS, e1, e2, ⟨π, e3, e4⟩, e5⟩ := h.at hok hs
    rw [e1, bind_e, e2, bind_e, e4.2.2.2.1, hcl]
    have h16 := hS.2.2.2.2.2.2.2.1
    by_cases c2 : n < S.2.2.2.length
    · rw [if_pos ((nI_ltI (by omega) (by omega)).mpr c2), bind_e, e2, bind_e, (e3.blk (k := n) (by omega)).1, bind_e, (e3.blk (k := n) (by omega)).2, bind_e]
      obtain ⟨b, hb⟩ := get_some (l := S.2.2.2) (i := n) c2
      refine ⟨fun z => (by rw [hb] at z; cases z), fun b' hb' => ?_⟩
      rw [hb] at hb'
      cases hb'
      obtain ⟨-, -, -, q1, q2⟩ := blk_at e3 e4 hS hb
      exact ⟨S, j, n, a, π, rfl, rfl, hj, hS, rfl, c2, hb, rfl, e5, e3, e4, rfl, q1, q2, (e3.2.2.2.2.2.2.1 n (by omega)).1⟩
    · rw [if_neg (fun z => c2 ((nI_ltI (by omega) (by omega)).mp z))]
      exact ⟨fun _ => rfl, fun b hb => by rw [List.getElem?_eq_none (by omega)] at hb; cases hb⟩
def aBlock (s : St) (x k w : Int32) : Int32 := match bko s x k with
  | none => -2
  | some b => if w < 0 then -2 else if w ≤ (5 : Int32) then (if w = 3 then nI b.2.1 else if w = 5 then (if b.2.2.1 = true then 1 else 0) else match rsB b with
    | .inl _ => -6
    | .inr r => if w = 0 then nI b.2.2.2.1 else if w = 1 then nI b.2.2.2.2 else if w = 2 then nI r.2.2.length else nI r.1) else -2
theorem block_ok {K : Kn} {m : Mem} {B : Nat} {s : St} (hok : stOk s) (h : RX K m B s) (x k w : Int32) : F_X8_block K m B x k w = some (aBlock s x k w) := by
  obtain ⟨hN, hS⟩ := blockOf_ok hok h x k
  unfold F_X8_block f_X8_block aBlock f_X8_block_92 f_X8_block_98 f_X8_block_104 f_X8_block_110
  cases hb : bko s x k with
  | none => rw [hN hb, bind_e, caseO_n]
  | some b =>
    obtain ⟨S, j, n, a, π, -, -, -, -, -, -, -, -, -, -, -, f1, q1, q2, -⟩ := hS b hb
    rw [f1, bind_e, caseO_v, gd_t q1.2.1]
    dsimp only
    by_cases c1 : w < 0
    · rw [if_pos c1, if_pos c1]
    rw [if_neg c1, if_neg c1]
    by_cases c2 : w ≤ (5 : Int32)
    · rw [if_pos c2, if_pos c2]
      by_cases w3 : w = 3
      · rw [if_pos w3, if_pos w3, q1.2.2.2.2.1]
      rw [if_neg w3, if_neg w3]
      by_cases w5 : w = 5
      · rw [if_pos w5, if_pos w5, q1.2.2.2.2.2.2.2.1]
        cases b.2.2.1 <;> rfl
      rw [if_neg w5, if_neg w5]
      have t9 := q1.2.2.2.2.2.2.2.2
      have hw := wrong_ok q1 q2
      cases hr : rsB b with
      | inl e =>
        have : ¬ gI m (a + 6 + 2 * π n) 7 = 0 := fun z => by
          have := hw.mp z
          unfold sndB at this
          rw [hr] at this; simp at this
        rw [if_neg this]
      | inr r =>
        rw [hr] at t9
        rw [if_pos t9.1]
        dsimp only
        by_cases w0 : w = 0
        · rw [if_pos w0, if_pos w0, q1.2.2.2.2.2.1]
        rw [if_neg w0, if_neg w0]
        by_cases w1 : w = 1
        · rw [if_pos w1, if_pos w1, q1.2.2.2.2.2.2.1]
        rw [if_neg w1, if_neg w1]
        by_cases w2 : w = 2
        · rw [if_pos w2, if_pos w2, t9.2.2.2]
        · rw [if_neg w2, if_neg w2, t9.2.2.1]
    · rw [if_neg c2, if_neg c2]
def aOctet (s : St) (x k i : Int32) : Int32 := match bko s x k with
  | none => -2
  | some b => if i < 0 then -1 else if i < nI b.2.1 then nI (b.1 i.toNatClampNeg) else -1
theorem octet_ok {K : Kn} {m : Mem} {B : Nat} {s : St} (hok : stOk s) (h : RX K m B s) (x k i : Int32) : F_X8_octet K m B x k i = some (aOctet s x k i) := by
  obtain ⟨hN, hS⟩ := blockOf_ok hok h x k
  unfold F_X8_octet f_X8_octet aOctet f_X8_octet_29
  cases hb : bko s x k with
  | none => rw [hN hb, bind_e, caseO_n]
  | some b =>
    obtain ⟨S, j, n, a, π, -, -, -, -, -, -, -, -, -, -, -, f1, q1, q2, -⟩ := hS b hb
    rw [f1, bind_e, caseO_v, gd_t q1.2.1, q1.2.2.2.2.1]
    dsimp only
    by_cases c1 : i < 0
    · rw [if_pos c1, if_pos c1]
    rw [if_neg c1, if_neg c1]
    obtain ⟨t, ht, rfl, hcl⟩ := idx_nI c1
    have h200 := q2.2.2.1
    by_cases c2 : nI t < nI b.2.1
    · rw [if_pos c2, if_pos c2, hcl]
      have c3 : t < b.2.1 := (nI_ltI (by omega) (by omega)).mp c2
      rw [ldA_n q1.1 q1.2.2.1, bind_e, alI_n (lenK_of q1.2.2.1) (by omega) (by omega), bind_e, q1.2.2.2.1 t c3]
    · rw [if_neg c2, if_neg c2]
def aFault (s : St) (x k w : Int32) : Int32 := match bko s x k with
  | none => -2
  | some b => if w < 0 then -2 else if w ≤ (1 : Int32) then (if w = 0 then nI (fltS (rsB b)) else match rsB b with
    | .inl e => iZ e.2
    | .inr _ => iZ (-1)) else -2
theorem fault_ok {K : Kn} {m : Mem} {B : Nat} {s : St} (hok : stOk s) (h : RX K m B s) (x k w : Int32) : F_X8_fault K m B x k w = some (aFault s x k w) := by
  obtain ⟨hN, hS⟩ := blockOf_ok hok h x k
  unfold F_X8_fault f_X8_fault aFault
  cases hb : bko s x k with
  | none => rw [hN hb, bind_e, caseO_n]
  | some b =>
    obtain ⟨S, j, n, a, π, -, -, -, -, -, -, -, -, -, -, -, f1, q1, q2, -⟩ := hS b hb
    rw [f1, bind_e, caseO_v, gd_t q1.2.1]
    dsimp only
    have t9 := q1.2.2.2.2.2.2.2.2
    by_cases c1 : w < 0
    · rw [if_pos c1, if_pos c1]
    rw [if_neg c1, if_neg c1]
    by_cases c2 : w ≤ (1 : Int32)
    · rw [if_pos c2, if_pos c2]
      cases hr : rsB b with
      | inl e =>
        rw [hr] at t9
        by_cases w0 : w = 0
        · rw [if_pos w0, if_pos w0, t9.1]; rfl
        · rw [if_neg w0, if_neg w0, t9.2]
      | inr r =>
        rw [hr] at t9
        by_cases w0 : w = 0
        · rw [if_pos w0, if_pos w0, t9.1]; rfl
        · rw [if_neg w0, if_neg w0, t9.2.1]
    · rw [if_neg c2, if_neg c2]
