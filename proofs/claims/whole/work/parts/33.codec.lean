/-! ===== bits as numbers; a point read, a point told ===== -/
def num (f : Nat → Nat) (p : Nat) : Nat → Nat
  | 0 => 0
  | w + 1 => 2 * num f p w + f (p + w)
theorem num_lt {f : Nat → Nat} (hf : ∀ q, f q < 2) (p w : Nat) : num f p w < 2 ^ w := by
  induction w with
  | zero => simp [num]
  | succ w ih => have := hf (p + w); rw [num, Nat.pow_succ]; omega
theorem num_add (f : Nat → Nat) (p a b : Nat) : num f p (a + b) = num f p a * 2 ^ b + num f (p + a) b := by
  induction b with
  | zero => simp [num]
  | succ b ih =>
    rw [← Nat.add_assoc, num, ih, num, Nat.pow_succ, Nat.add_assoc p a b]
    have : num f p a * (2 ^ b * 2) = 2 * (num f p a * 2 ^ b) := by rw [← Nat.mul_assoc, Nat.mul_comm]
    omega
theorem num_congr {f g : Nat → Nat} {p w : Nat} (h : ∀ q, p ≤ q → q < p + w → f q = g q) : num f p w = num g p w := by
  induction w with
  | zero => rfl
  | succ w ih => rw [num, num, ih (fun q h1 h2 => h q h1 (by omega)), h (p + w) (by omega) (by omega)]
theorem num_one (f : Nat → Nat) (p : Nat) : num f p 1 = f p := by simp [num]
/-- chunks: numbers and how many bits they take -/
def chW : List (Nat × Nat) → Nat
  | [] => 0
  | c :: l => c.2 + chW l
def chN : List (Nat × Nat) → Nat
  | [] => 0
  | c :: l => c.1 * 2 ^ chW l + chN l
def chOk (l : List (Nat × Nat)) : Prop := ∀ c ∈ l, c.1 < 2 ^ c.2
theorem chN_lt {l : List (Nat × Nat)} (h : chOk l) : chN l < 2 ^ chW l := by
  induction l with
  | nil => simp [chN, chW]
  | cons c l ih =>
    have h1 := h c List.mem_cons_self
    have h2 := ih (fun x hx => h x (List.mem_cons_of_mem _ hx))
    rw [chN, chW, Nat.pow_add]
    have h3 : (c.1 + 1) * 2 ^ chW l ≤ 2 ^ c.2 * 2 ^ chW l := Nat.mul_le_mul_right _ h1
    rw [Nat.add_mul] at h3
    omega
theorem num_split {f : Nat → Nat} (hf : ∀ q, f q < 2) {p a b v r : Nat} (hr : r < 2 ^ b) (h : num f p (a + b) = v * 2 ^ b + r) : num f p a = v ∧ num f (p + a) b = r := by
  rw [num_add] at h
  have h1 := num_lt hf (p + a) b
  have e1 : (num f p a * 2 ^ b + num f (p + a) b) / 2 ^ b = num f p a := by
    rw [Nat.mul_comm, Nat.mul_add_div (Nat.two_pow_pos b), Nat.div_eq_of_lt h1, Nat.add_zero]
  have e2 : (v * 2 ^ b + r) / 2 ^ b = v := by
    rw [Nat.mul_comm, Nat.mul_add_div (Nat.two_pow_pos b), Nat.div_eq_of_lt hr, Nat.add_zero]
  have e3 : num f p a = v := by rw [← e1, h, e2]
  refine ⟨e3, ?_⟩
  rw [e3] at h
  omega
theorem num_ch {f : Nat → Nat} (hf : ∀ q, f q < 2) {p : Nat} {c : Nat × Nat} {l : List (Nat × Nat)} (hl : chOk (c :: l)) (h : num f p (chW (c :: l)) = chN (c :: l)) : num f p c.2 = c.1 ∧ num f (p + c.2) (chW l) = chN l :=
  num_split hf (chN_lt fun x hx => hl x (List.mem_cons_of_mem _ hx)) h
/-- CLASS of a SECOND; how its bits begin; how many follow -/
def kindA (s : Int) : Nat := if s = 0 then 0 else if -63 ≤ s ∧ s ≤ 64 then 1 else if -255 ≤ s ∧ s ≤ 256 then 2 else if -2047 ≤ s ∧ s ≤ 2048 then 3 else 4
def kwid (k : Nat) : Nat := if k = 0 then 1 else if k = 1 then 2 else if k = 2 then 3 else 4
def cwid (k : Nat) : Nat := if k = 0 then 0 else if k = 1 then 7 else if k = 2 then 9 else if k = 3 then 12 else 32
def kpfx (k : Nat) : Nat := if k = 0 then 0 else if k = 1 then 2 else if k = 2 then 6 else if k = 3 then 14 else 15
theorem kindA_le (s : Int) : kindA s ≤ 4 := by
  unfold kindA
  repeat (first | omega | split)
/-- a SECOND out of its lowest bits -/
def sgnA (k v : Nat) : Int := if k = 0 then 0 else if k = 4 then (if v < 2147483648 then (v : Int) else (v : Int) - 4294967296) else if k = 1 then (if 64 < v then (v : Int) - 128 else v) else if k = 2 then (if 256 < v then (v : Int) - 512 else v) else (if 2048 < v then (v : Int) - 4096 else v)
/-- the lowest bits of a SECOND -/
def lowA (k : Nat) (s : Int) : Nat := (s % (2 : Int) ^ cwid k).toNat
theorem lowA_lt (k : Nat) (s : Int) : lowA k s < 2 ^ cwid k := by
  unfold lowA
  have h1 := Int.emod_nonneg s (b := (2 : Int) ^ cwid k) (by have := Int.pow_pos (n := 2) (m := cwid k) (by decide); omega)
  have h2 := Int.emod_lt_of_pos s (b := (2 : Int) ^ cwid k) (Int.pow_pos (by decide))
  have e : ((2 ^ cwid k : Nat) : Int) = (2 : Int) ^ cwid k := by norm_cast
  omega
theorem sgn_low {s : Int} (h1 : -2147483648 ≤ s) (h2 : s < 2147483648) : sgnA (kindA s) (lowA (kindA s) s) = s := by
  unfold kindA
  by_cases c0 : s = 0
  · subst c0; rfl
  rw [if_neg c0]
  by_cases c1 : -63 ≤ s ∧ s ≤ 64
  · rw [if_pos c1]
    have e : lowA 1 s = (s % 128).toNat := rfl
    show (if 64 < lowA 1 s then (lowA 1 s : Int) - 128 else lowA 1 s) = s
    rw [e]; split <;> omega
  rw [if_neg c1]
  by_cases c2 : -255 ≤ s ∧ s ≤ 256
  · rw [if_pos c2]
    have e : lowA 2 s = (s % 512).toNat := rfl
    show (if 256 < lowA 2 s then (lowA 2 s : Int) - 512 else lowA 2 s) = s
    rw [e]; split <;> omega
  rw [if_neg c2]
  by_cases c3 : -2047 ≤ s ∧ s ≤ 2048
  · rw [if_pos c3]
    have e : lowA 3 s = (s % 4096).toNat := rfl
    show (if 2048 < lowA 3 s then (lowA 3 s : Int) - 4096 else lowA 3 s) = s
    rw [e]; split <;> omega
  rw [if_neg c3]
  have e : lowA 4 s = (s % 4294967296).toNat := rfl
  show (if lowA 4 s < 2147483648 then (lowA 4 s : Int) else (lowA 4 s : Int) - 4294967296) = s
  rw [e]; split <;> omega
/-- where the class of bits begins -/
def kindR (f : Nat → Nat) (p : Nat) : Nat := if f p = 0 then 0 else if f (p + 1) = 0 then 1 else if f (p + 2) = 0 then 2 else if f (p + 3) = 0 then 3 else 4
theorem kindR_le (f : Nat → Nat) (p : Nat) : kindR f p ≤ 4 := by
  unfold kindR
  repeat (first | omega | split)
theorem kindR_of {f : Nat → Nat} (hf : ∀ q, f q < 2) {p k : Nat} (hk : k ≤ 4) (h : num f p (kwid k) = kpfx k) : kindR f p = k := by
  have h0 := hf p
  have h1 := hf (p + 1)
  have h2 := hf (p + 2)
  have h3 := hf (p + 3)
  unfold kindR
  rcases (show k = 0 ∨ k = 1 ∨ k = 2 ∨ k = 3 ∨ k = 4 by omega) with rfl | rfl | rfl | rfl | rfl <;> simp [kwid, kpfx, num] at h <;> (repeat (first | omega | split))
/-- leading and trailing zeros, as the machine's library tells them -/
def lz (x : Int64) : Nat := match F_J13_numberOfLeadingZeros_95d88 x with
  | some r => r.toNatClampNeg
  | none => 0
def tz (x : Int64) : Nat := match F_J13_numberOfTrailingZeros_95d88 x with
  | some r => r.toNatClampNeg
  | none => 0
abbrev Win : Type := Option (Nat × Nat)
/-- stamp, DIFFERENCE, value of the point ahead, WINDOW -/
abbrev Cs : Type := Nat × Nat × Int64 × Win
def wayA (w : Win) (x : Int64) : Nat := if x = 0 then 5 else match w with
  | none => 7
  | some q => if q.1 ≤ lz x ∧ q.2 ≤ tz x ∧ lz x + tz x ≤ q.1 + q.2 + 11 then 6 else 7
def leadA (x : Int64) : Nat := min 31 (lz x)
def widA (x : Int64) : Nat := 64 - leadA x - tz x
def winW (w : Win) : Nat := match w with
  | none => 0
  | some q => 64 - q.1 - q.2
def winT (w : Win) : Nat := match w with
  | none => 0
  | some q => q.2
def secA (c : Cs) (t : Nat) : Int := (t : Int) - c.1 - c.2.1
/-- the value's own bits -/
def encV (w : Win) (x : Int64) : List (Nat × Nat) := if wayA w x = 5 then [(0, 1)] else if wayA w x = 6 then [(2, 2), (uN x / 2 ^ winT w, winW w)] else [(3, 2), (leadA x, 5), (widA x - 1, 6), (uN x / 2 ^ tz x, widA x)]
/-- a point's bits -/
def encP (c : Cs) (t : Nat) (v : Int64) : List (Nat × Nat) := (kpfx (kindA (secA c t)), kwid (kindA (secA c t))) :: (lowA (kindA (secA c t)) (secA c t), cwid (kindA (secA c t))) :: encV c.2.2.2 (v ^^^ c.2.2.1)
/-- the point ahead then -/
def stepA (c : Cs) (t : Nat) (v : Int64) : Cs := (t, t - c.1, v, if wayA c.2.2.2 (v ^^^ c.2.2.1) = 7 then some (leadA (v ^^^ c.2.2.1), tz (v ^^^ c.2.2.1)) else c.2.2.2)
/-- a value read: its way, the differing bits, lead and width as they were told, where it ends -/
def rdV (f : Nat → Nat) (w : Win) (p : Nat) : Nat × Int64 × Nat × Nat × Nat := if f p = 0 then (5, 0, 0, 0, p + 1) else if f (p + 1) = 0 then (6, lN (num f (p + 2) (winW w) * 2 ^ winT w), 0, 0, p + 2 + winW w) else
  (7, if 64 < num f (p + 2) 5 + (num f (p + 7) 6 + 1) then 0 else lN (num f (p + 13) (num f (p + 7) 6 + 1) * 2 ^ (64 - num f (p + 2) 5 - (num f (p + 7) 6 + 1))), num f (p + 2) 5, num f (p + 7) 6 + 1, p + 13 + (num f (p + 7) 6 + 1))
/-- is a value told as it would be -/
def okV (w : Win) (r : Nat × Int64 × Nat × Nat × Nat) : Prop := r.1 = 5 ∨ (wayA w r.2.1 = r.1 ∧ (r.1 = 6 ∨ (r.2.2.1 = leadA r.2.1 ∧ r.2.2.1 + r.2.2.2.1 + tz r.2.1 = 64)))
