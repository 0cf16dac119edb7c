/-! ===== mends: the pure side ===== -/
theorem nat_ext : ∀ {l l' : List Nat}, l.Pairwise (· < ·) → l'.Pairwise (· < ·) → (∀ x, x ∈ l ↔ x ∈ l') → l = l'
  | [], [], _, _, _ => rfl
  | [], y :: l', _, _, h => absurd ((h y).mpr (by simp)) (by simp)
  | x :: l, [], _, _, h => absurd ((h x).mp (by simp)) (by simp)
  | x :: l, y :: l', h1, h2, h => by
    have p1 := List.pairwise_cons.mp h1
    have p2 := List.pairwise_cons.mp h2
    have hxy : x = y := by
      rcases List.mem_cons.mp ((h x).mp (by simp)) with e | hx
      · exact e
      · rcases List.mem_cons.mp ((h y).mpr (by simp)) with e | hy
        · exact e.symm
        · have := p1.1 y hy; have := p2.1 x hx; omega
    subst hxy
    congr 1
    refine nat_ext p1.2 p2.2 (fun q => ?_)
    have hq := h q
    rw [List.mem_cons, List.mem_cons] at hq
    constructor
    · intro hm
      rcases hq.mp (Or.inr hm) with e | e
      · have := p1.1 q hm; omega
      · exact e
    · intro hm
      rcases hq.mpr (Or.inr hm) with e | e
      · have := p2.1 q hm; omega
      · exact e
/-- a change of one byte, byte times 256 and what it becomes, by which a block is sound -/
def goodK (b : Bk) (k : Nat) : Bool := decide (k % 256 ≠ b.1 (k / 256)) && sndB (putB b (k / 256) (k % 256))
def mndU (b : Bk) (n : Nat) : List Nat := (List.range n).filter (goodK b)
def mndL (b : Bk) : List Nat := mndU b (256 * b.2.1)
theorem mndU_srt (b : Bk) (n : Nat) : (mndU b n).Pairwise (· < ·) := List.Pairwise.sublist List.filter_sublist List.pairwise_lt_range
theorem mndU_mem {b : Bk} {n k : Nat} : k ∈ mndU b n ↔ k < n ∧ goodK b k = true := by unfold mndU; rw [List.mem_filter, List.mem_range]
/-- candidates suffice -/
theorem mndU_step {b : Bk} {n n' : Nat} {cs : List Nat} (hn : n ≤ n') (hcs : cs.Pairwise (· < ·)) (hc : ∀ k ∈ cs, n ≤ k ∧ k < n') (hg : ∀ k, n ≤ k → k < n' → goodK b k = true → k ∈ cs) : mndU b n' = mndU b n ++ cs.filter (goodK b) := by
  refine nat_ext (mndU_srt b n') (List.pairwise_append.mpr ⟨mndU_srt b n, hcs.sublist List.filter_sublist, fun x hx y hy => ?_⟩) (fun k => ?_)
  · have h1 := (mndU_mem.mp hx).1
    have h2 := (hc y (List.mem_filter.mp hy).1).1
    omega
  · rw [mndU_mem, List.mem_append, mndU_mem, List.mem_filter]
    constructor
    · rintro ⟨h1, h2⟩
      by_cases c : k < n
      · exact Or.inl ⟨c, h2⟩
      · exact Or.inr ⟨hg k (by omega) h1 h2, h2⟩
    · rintro (⟨h1, h2⟩ | ⟨h1, h2⟩)
      · exact ⟨by omega, h2⟩
      · exact ⟨(hc k h1).2, h2⟩
/-- equal but for multiples of 251 -/
def eq251 (a b : Int) : Prop := ∃ k : Int, a = b + 251 * k
theorem eq251.refl (a : Int) : eq251 a a := ⟨0, by omega⟩
theorem eq251.trans {a b c : Int} (h : eq251 a b) (h' : eq251 b c) : eq251 a c := by
  obtain ⟨k, rfl⟩ := h; obtain ⟨l, rfl⟩ := h'; exact ⟨l + k, by rw [Int.mul_add]; omega⟩
theorem eq251.symm {a b : Int} (h : eq251 a b) : eq251 b a := by
  obtain ⟨k, rfl⟩ := h; exact ⟨-k, by rw [Int.mul_neg]; omega⟩
theorem eq251.mul {a b : Int} (h : eq251 a b) (c : Int) : eq251 (a * c) (b * c) := by
  obtain ⟨k, rfl⟩ := h; exact ⟨k * c, by rw [Int.add_mul, Int.mul_assoc]⟩
theorem eq251.add {a b : Int} (h : eq251 a b) (c : Int) : eq251 (a + c) (b + c) := by
  obtain ⟨k, rfl⟩ := h; exact ⟨k, by omega⟩
theorem eq251.addl {a b : Int} (h : eq251 a b) (c : Int) : eq251 (c + a) (c + b) := by
  obtain ⟨k, rfl⟩ := h; exact ⟨k, by omega⟩
theorem eq251_mod (n : Nat) : eq251 ((n % 251 : Nat) : Int) (n : Int) := ⟨-((n / 251 : Nat) : Int), by omega⟩
theorem eq251_emod (z : Int) : eq251 (z % 251) z := ⟨-(z / 251), by omega⟩
theorem eq251_lt {a b : Int} (h : eq251 a b) (ha : 0 ≤ a ∧ a < 251) (hb : 0 ≤ b ∧ b < 251) : a = b := by
  obtain ⟨k, rfl⟩ := h; omega
theorem chk_put {f : Nat → Nat} {i v : Nat} : ∀ n, i < n → eq251 ((chk (fun k => if k = i then v else f k) n : Nat) : Int) ((chk f n : Nat) + ((v : Int) - f i) * 31 ^ (n - 1 - i))
  | 0, h => absurd h (Nat.not_lt_zero _)
  | n + 1, h => by
    rw [chk, chk]
    by_cases c : i = n
    · subst c
      have e1 : chk (fun k => if k = i then v else f k) i = chk f i := chk_congr (fun k hk => if_neg (by omega))
      rw [e1, if_pos rfl]
      refine (eq251_mod _).trans (eq251.trans ?_ ((eq251_mod _).symm.add _))
      refine ⟨0, ?_⟩
      rw [show i + 1 - 1 - i = 0 by omega]
      push_cast
      omega
    · have ih := chk_put (f := f) (i := i) (v := v) n (show i < n by omega)
      rw [if_neg (by omega)]
      refine (eq251_mod _).trans (eq251.trans ?_ ((eq251_mod _).symm.add _))
      have e2 : n + 1 - 1 - i = (n - 1 - i) + 1 := by omega
      rw [e2, Int.pow_succ]
      push_cast
      have := (ih.mul 31).add (f n : Int)
      rw [Int.add_mul, Int.mul_assoc] at this
      rw [show (chk f n : Int) * 31 + (f n : Int) + ((v : Int) - f i) * (31 ^ (n - 1 - i) * 31) = (chk f n : Int) * 31 + ((v : Int) - f i) * (31 ^ (n - 1 - i) * 31) + (f n : Int) by omega]
      exact this
theorem pow2511 : ∀ e : Nat, eq251 ((2511 : Int) ^ e) 1
  | 0 => eq251.refl _
  | e + 1 => by
    rw [Int.pow_succ]
    refine ((pow2511 e).mul 2511).trans ⟨10, by omega⟩
/-- factors: 81 to so many -/
def facR (fac e : Nat) : Prop := fac < 251 ∧ eq251 (fac : Int) (81 ^ e)
theorem fac_up {fac e : Nat} (h : facR fac e) : facR (fac * 81 % 251) (e + 1) := by
  refine ⟨Nat.mod_lt _ (by decide), (eq251_mod _).trans ?_⟩
  push_cast
  rw [Int.pow_succ]
  exact h.2.mul 81
theorem fac_dn {fac e : Nat} (h : facR fac (e + 1)) : facR (fac * 31 % 251) e := by
  refine ⟨Nat.mod_lt _ (by decide), (eq251_mod _).trans ?_⟩
  push_cast
  refine (h.2.mul 31).trans ?_
  rw [Int.pow_succ, Int.mul_assoc]
  have := eq251.mul (show eq251 (81 * 31) 1 from ⟨10, by omega⟩) (81 ^ e)
  rw [Int.mul_comm (81 * 31), Int.one_mul] at this
  exact this
/-- what a byte must become, but for multiples of 251, that the sum is right -/
theorem good_rem {f : Nat → Nat} {i v n fac : Nat} (hi : i < n) (hf : facR fac (n - 1 - i)) {cb : Nat} (h : cb = chk (fun k => if k = i then v else f k) n) : eq251 (v : Int) ((f i : Int) + ((cb : Int) - chk f n) * fac) := by
  have h1 := chk_put (f := f) (i := i) (v := v) n hi
  rw [← h] at h1
  have h2 : eq251 ((cb : Int) - chk f n) (((v : Int) - f i) * 31 ^ (n - 1 - i)) := by
    obtain ⟨k, hk⟩ := h1
    exact ⟨k, by omega⟩
  have h3 := h2.mul (fac : Int)
  have h4 : eq251 (((v : Int) - f i) * 31 ^ (n - 1 - i) * fac) (((v : Int) - f i) * 31 ^ (n - 1 - i) * 81 ^ (n - 1 - i)) := by
    obtain ⟨k, hk⟩ := hf.2
    rw [hk]
    refine ⟨((v : Int) - f i) * 31 ^ (n - 1 - i) * k, ?_⟩
    generalize ((v : Int) - f i) * 31 ^ (n - 1 - i) = X
    rw [Int.mul_add, Int.mul_left_comm X 251 k]
  have h5 : (((v : Int) - f i) * 31 ^ (n - 1 - i) * 81 ^ (n - 1 - i)) = ((v : Int) - f i) * 2511 ^ (n - 1 - i) := by
    rw [Int.mul_assoc, ← Int.mul_pow]; rfl
  have h6 : eq251 (((v : Int) - f i) * 2511 ^ (n - 1 - i)) ((v : Int) - f i) := by
    have := (pow2511 (n - 1 - i)).mul ((v : Int) - f i)
    rw [Int.one_mul, Int.mul_comm] at this
    exact this
  have h7 := ((h3.trans h4).trans (by rw [h5]; exact eq251.refl _)).trans h6
  obtain ⟨k, hk⟩ := h7
  exact ⟨-k, by rw [Int.mul_neg]; omega⟩
theorem snd_chk {b : Bk} (hs : b.2.2.1 = true) (h : sndB b = true) : b.1 (b.2.1 - 1) = chk b.1 (b.2.1 - 1) := by
  obtain ⟨p, c, hr⟩ := snd_rs h
  unfold rsB at hr
  rw [if_pos hs] at hr
  unfold exK exS at hr
  by_cases c1 : b.2.1 < 15 ∨ b.1 (b.2.1 - 1) ≠ chk b.1 (b.2.1 - 1)
  · rw [if_pos c1] at hr; cases hr
  · omega
