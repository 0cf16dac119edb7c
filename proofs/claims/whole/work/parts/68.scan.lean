/-! ===== loops over rows ===== -/
def foldI {α β : Type} (st : β → Nat → α → β) : β → Nat → List α → β
  | x, _, [] => x
  | x, i, a :: l => foldI st (st x i a) (i + 1) l
theorem drop_get {α : Type} {l : List α} {i : Nat} {a : α} (h : l[i]? = some a) : l.drop i = a :: l.drop (i + 1) := by
  obtain ⟨h1, h2⟩ := List.getElem?_eq_some_iff.mp h
  rw [List.drop_eq_getElem_cons h1, h2]
theorem get_some {α : Type} {l : List α} {i : Nat} (h : i < l.length) : ∃ a, l[i]? = some a := ⟨l[i], List.getElem?_eq_getElem h⟩
theorem scan {α β γ : Type} (l : List α) (G : Nat → β → Nat → Option γ) (st : β → Nat → α → β) (fin : β → γ) (hB : ∀ n x i a, l[i]? = some a → G (n + 1) x i = G n (st x i a) (i + 1)) (hE : ∀ n x, G (n + 1) x l.length = some (fin x)) : ∀ n i x, i ≤ l.length → l.length - i < n → G n x i = some (fin (foldI st x i (l.drop i)))
  | 0, _, _, _, h => absurd h (Nat.not_lt_zero _)
  | n + 1, i, x, hi, hn => by
    by_cases c : i = l.length
    · rw [c, hE, List.drop_eq_nil_of_le (Nat.le_refl _)]; rfl
    · obtain ⟨a, ha⟩ := get_some (l := l) (i := i) (by omega)
      rw [hB n x i a ha, scan l G st fin hB hE n (i + 1) _ (by omega) (by omega), drop_get ha]; rfl
theorem scan0 {α β γ : Type} (l : List α) (hl : l.length < 1000000) (G : Nat → β → Nat → Option γ) (st : β → Nat → α → β) (fin : β → γ) (x : β) (hB : ∀ n x i a, l[i]? = some a → G (n + 1) x i = G n (st x i a) (i + 1)) (hE : ∀ n x, G (n + 1) x l.length = some (fin x)) : G FU x 0 = some (fin (foldI st x 0 l)) := by
  have := scan l G st fin hB hE FU 0 x (Nat.zero_le _) (by rw [FU_e]; omega)
  rw [List.drop_zero] at this
  exact this
/-- sound, its points -/
def ptsB (b : Bk) : List PtR := match rsB b with
  | .inl _ => []
  | .inr r => r.2.2
def sndB (b : Bk) : Bool := match rsB b with
  | .inl _ => false
  | .inr _ => true
theorem exK_pos {by_ : Nat → Nat} {size fst lst : Nat} {e : Nat × Int} (hr : exK by_ size fst lst = .inl e) : e.1 ≠ 0 := by
  intro z
  revert hr
  unfold exK
  cases hS : exS by_ size with
  | inr q =>
    dsimp only
    split
    · intro hh; cases hh; exact absurd z (by simp)
    · intro hh; cases hh
  | inl q =>
    dsimp only
    intro hh; cases hh
    unfold exS at hS
    split at hS
    · cases hS; exact absurd z (by simp)
    split at hS
    · cases hS; exact absurd z (by simp)
    split at hS
    · cases hS; exact absurd z (by simp)
    split at hS
    · rename_i e' he'
      cases hS
      have : ∀ n, rdN (fb by_ (8 * (size - 15))) (8 * (size - 15)) (cs0 by_) n = .inl e' → e'.1 ≠ 0 := by
        intro n
        induction n with
        | zero => intro h; cases h
        | succ n ih =>
          intro h
          unfold rdN at h
          cases hn : rdN (fb by_ (8 * (size - 15))) (8 * (size - 15)) (cs0 by_) n with
          | inl q => rw [hn] at h ih; exact ih h
          | inr q =>
            obtain ⟨p1, c1, l1⟩ := q
            rw [hn] at h
            dsimp only at h
            split at h
            · cases h
            · cases h; assumption
      exact this _ he' z
    · split at hS
      · cases hS; exact absurd z (by simp)
      · cases hS
theorem rs_inl {b : Bk} (hok : bkOk b) {e : Nat × Int} (h : rsB b = .inl e) : b.2.2.1 = true ∧ 1 ≤ e.1 ∧ e.1 < 8 := by
  cases hs : b.2.2.1 with
  | false =>
    obtain ⟨p, c, l, hr, -⟩ := ok_open hok hs
    rw [h] at hr; cases hr
  | true =>
    unfold rsB at h
    rw [if_pos hs] at h
    have := fltS_lt (by_ := b.1) (size := b.2.1) (fst := b.2.2.2.1) (lst := b.2.2.2.2)
    rw [h] at this
    have h0 := exK_pos h
    exact ⟨rfl, by omega, this⟩
theorem wrong_ok {K : Kn} {m : Mem} {a : Nat} {b : Bk} (h : bkR K m a b) (hok : bkOk b) : gI m a 7 = 0 ↔ sndB b = true := by
  have t9 := h.2.2.2.2.2.2.2.2
  unfold sndB
  cases hr : rsB b with
  | inl e =>
    rw [hr] at t9
    have := rs_inl hok hr
    rw [t9.1, show (0 : Int32) = nI 0 from rfl, nI_eq (by omega) (by omega)]
    simp; omega
  | inr r =>
    rw [hr] at t9
    simp [t9.1]
theorem bkR.pts {K : Kn} {m : Mem} {a : Nat} {b : Bk} (h : bkR K m a b) (hs : sndB b = true) : gI m a 3 = nI (ptsB b).length := by
  have t9 := h.2.2.2.2.2.2.2.2
  unfold sndB at hs
  unfold ptsB
  cases hr : rsB b with
  | inl e => rw [hr] at hs; simp at hs
  | inr r => rw [hr] at t9; exact t9.2.2.2
/-- a loop over the blocks of a series: what each step has at hand -/
theorem blk_at {K : Kn} {m : Mem} {a : Nat} {π : Nat → Nat} {S : Sr} (hs : seS K m a π) (h : seD K m a π S) (hok : srOk S) {i : Nat} {b : Bk} (hi : S.2.2.2[i]? = some b) : (¬ gI m a 3 ≤ nI i) ∧ ldA K m a 0 4 = some (a + 1) ∧ alO K m (a + 1) (nI i) 0 = some (a + 6 + 2 * π i) ∧ bkR K m (a + 6 + 2 * π i) b ∧ bkOk b := by
  have hl := hok.2.2.2.2.2.2.2.1
  have hi' := (List.getElem?_eq_some_iff.mp hi).1
  obtain ⟨e1, e2⟩ := hs.blk (k := i) (by omega)
  refine ⟨?_, e1, e2, h.2.2.2.2.2.1 i b hi, (hok.2.2.2.2.2.2.2.2.1 b (List.mem_of_getElem? hi)).1⟩
  rw [h.2.2.2.1]
  exact nI_ge hi' (by omega)
theorem blk_end {K : Kn} {m : Mem} {a : Nat} {π : Nat → Nat} {S : Sr} (h : seD K m a π S) (hok : srOk S) : gI m a 3 ≤ nI S.2.2.2.length := by
  rw [h.2.2.2.1]
  exact nI_le (Nat.le_refl _) (by have := hok.2.2.2.2.2.2.2.1; omega)
def spA (bl : List Bk) : Int32 := foldI (fun (x : Int32) _ b => if sndB b = true then x + nI (ptsB b).length else x) 0 0 bl
theorem soundPoints_ok {K : Kn} {m : Mem} {a : Nat} {π : Nat → Nat} {S : Sr} (hs : seS K m a π) (h : seD K m a π S) (hok : srOk S) : F_X7_soundPoints K m a = some (spA S.2.2.2) := by
  refine scan0 S.2.2.2 (by have := hok.2.2.2.2.2.2.2.1; omega) (fun n x i => f_X7_soundPoints_4 K m a n x (nI i)) _ (fun x => x) (0 : Int32) (fun n x i b hb => ?_) (fun n x => ?_)
  · obtain ⟨c1, e1, e2, e3, e4⟩ := blk_at hs h hok hb
    show f_X7_soundPoints_4B K m a (f_X7_soundPoints_4 K m a n) x (nI i) = _
    unfold f_X7_soundPoints_4B f_X7_soundPoints_36
    rw [if_neg c1, e1, bind_e, e2, bind_e]
    by_cases c : sndB b = true
    · rw [if_pos ((wrong_ok e3 e4).mpr c), if_pos c, bind_e, e2, bind_e, e3.pts c]
      simp only [bd_e, nI_1]
    · rw [if_neg (fun z => c ((wrong_ok e3 e4).mp z)), if_neg c]
      simp only [bd_e, nI_1]
  · show f_X7_soundPoints_4B K m a (f_X7_soundPoints_4 K m a n) x (nI S.2.2.2.length) = _
    unfold f_X7_soundPoints_4B
    rw [if_pos (blk_end h hok)]
def bysA (bl : List Bk) : Int32 := foldI (fun (x : Int32) _ b => x + nI b.2.1) 0 0 bl
theorem bytes_ok {K : Kn} {m : Mem} {a : Nat} {π : Nat → Nat} {S : Sr} (hs : seS K m a π) (h : seD K m a π S) (hok : srOk S) : F_X7_bytes K m a = some (bysA S.2.2.2) := by
  refine scan0 S.2.2.2 (by have := hok.2.2.2.2.2.2.2.1; omega) (fun n x i => f_X7_bytes_4 K m a n x (nI i)) _ (fun x => x) (0 : Int32) (fun n x i b hb => ?_) (fun n x => ?_)
  · obtain ⟨c1, e1, e2, e3, e4⟩ := blk_at hs h hok hb
    show f_X7_bytes_4B K m a (f_X7_bytes_4 K m a n) x (nI i) = _
    unfold f_X7_bytes_4B
    rw [if_neg c1, e1, bind_e, e2, bind_e, e3.2.2.2.2.1]
    simp only [bd_e, nI_1]
  · show f_X7_bytes_4B K m a (f_X7_bytes_4 K m a n) x (nI S.2.2.2.length) = _
    unfold f_X7_bytes_4B
    rw [if_pos (blk_end h hok)]
def brkA (bl : List Bk) : Int32 := foldI (fun (x : Int32) i b => if sndB b = true then x else x ||| ((1 : Int32) <<< (nI i &&& 31))) 0 0 bl
theorem broken_ok {K : Kn} {m : Mem} {a : Nat} {π : Nat → Nat} {S : Sr} (hs : seS K m a π) (h : seD K m a π S) (hok : srOk S) : F_X7_broken K m a = some (brkA S.2.2.2) := by
  refine scan0 S.2.2.2 (by have := hok.2.2.2.2.2.2.2.1; omega) (fun n x i => f_X7_broken_4 K m a n x (nI i)) _ (fun x => x) (0 : Int32) (fun n x i b hb => ?_) (fun n x => ?_)
  · obtain ⟨c1, e1, e2, e3, e4⟩ := blk_at hs h hok hb
    show f_X7_broken_4B K m a (f_X7_broken_4 K m a n) x (nI i) = _
    unfold f_X7_broken_4B f_X7_broken_30
    rw [if_neg c1, e1, bind_e, e2, bind_e]
    by_cases c : sndB b = true
    · rw [if_pos ((wrong_ok e3 e4).mpr c), if_pos c]
      simp only [bd_e, nI_1]
    · rw [if_neg (fun z => c ((wrong_ok e3 e4).mp z)), if_neg c]
      simp only [bd_e, nI_1]
  · show f_X7_broken_4B K m a (f_X7_broken_4 K m a n) x (nI S.2.2.2.length) = _
    unfold f_X7_broken_4B
    rw [if_pos (blk_end h hok)]
/-- a block is opened for a span -/
def touA (b : Bk) (from_ to_ : Int) : Bool := sndB b && decide ((b.2.2.2.1 : Int) ≤ to_) && decide (from_ ≤ (b.2.2.2.2 : Int))
theorem touches_ok {K : Kn} {m : Mem} {a : Nat} {b : Bk} (h : bkR K m a b) (hok : bkOk b) (x1 x2 : Int32) : F_X0_touches K m a x1 x2 = some (if touA b x1.toInt x2.toInt = true then 1 else 0) := by
  have h6 := hok.2.2.2.2.2.1
  have h7 := hok.2.2.2.2.2.2
  unfold F_X0_touches f_X0_touches f_X0_touches_27 touA
  have c1 : x2 < gI m a 4 ↔ ¬ ((b.2.2.2.1 : Int) ≤ x2.toInt) := by rw [h.2.2.2.2.2.1, fa_lt, nI_toInt (by omega)]; omega
  have c2 : gI m a 5 < x1 ↔ ¬ (x1.toInt ≤ (b.2.2.2.2 : Int)) := by rw [h.2.2.2.2.2.2.1, fa_lt, nI_toInt (by omega)]; omega
  by_cases c : sndB b = true
  · rw [if_pos ((wrong_ok h hok).mpr c), c]
    by_cases d1 : (b.2.2.2.1 : Int) ≤ x2.toInt
    · rw [if_neg (fun z => c1.mp z d1)]
      by_cases d2 : x1.toInt ≤ (b.2.2.2.2 : Int)
      · rw [if_neg (fun z => c2.mp z d2)]; simp [d1, d2]
      · rw [if_pos (c2.mpr d2)]; simp [d2]
    · rw [if_pos (c1.mpr d1)]; simp [d1]
  · rw [if_neg (fun z => c ((wrong_ok h hok).mp z))]
    have : sndB b = false := by cases hh : sndB b <;> simp_all
    rw [this]; rfl
def opdA (bl : List Bk) (from_ to_ : Int) : Int32 := foldI (fun (x : Int32) _ b => if touA b from_ to_ = true then x + 1 else x) 0 0 bl
theorem opened_ok {K : Kn} {m : Mem} {a : Nat} {π : Nat → Nat} {S : Sr} (hs : seS K m a π) (h : seD K m a π S) (hok : srOk S) (x1 x2 : Int32) : F_X7_opened K m a x1 x2 = some (opdA S.2.2.2 x1.toInt x2.toInt) := by
  refine scan0 S.2.2.2 (by have := hok.2.2.2.2.2.2.2.1; omega) (fun n x i => f_X7_opened_5 K m a x1 x2 n x (nI i)) _ (fun x => x) (0 : Int32) (fun n x i b hb => ?_) (fun n x => ?_)
  · obtain ⟨c1, e1, e2, e3, e4⟩ := blk_at hs h hok hb
    show f_X7_opened_5B K m a x1 x2 (f_X7_opened_5 K m a x1 x2 n) x (nI i) = _
    unfold f_X7_opened_5B f_X7_opened_32
    rw [if_neg c1, e1, bind_e, e2, bind_e, touches_ok e3 e4, bind_e]
    by_cases c : touA b x1.toInt x2.toInt = true
    · simp only [if_pos c, bd_e, nI_1]
      rw [if_neg (by decide)]
    · simp only [if_neg c, bd_e, nI_1]
      rw [if_pos trivial]
  · show f_X7_opened_5B K m a x1 x2 (f_X7_opened_5 K m a x1 x2 n) x (nI S.2.2.2.length) = _
    unfold f_X7_opened_5B
    rw [if_pos (blk_end h hok)]
