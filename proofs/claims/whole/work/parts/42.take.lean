/-! ===== the reader takes bits ===== -/
theorem sI_sI {m : Mem} {a k : Nat} {u v : Int32} : sI (sI m a k u) a k v = sI m a k v := by
  unfold sI
  simp only
  congr 2
  funext b j
  by_cases h : b = a ∧ j = k <;> simp [h]
theorem sI_id {m : Mem} {a k : Nat} {v : Int32} (h : gI m a k = v) : sI m a k v = m := by
  subst h
  have e : (fun b j => if b = a ∧ j = k then m.2.1 a k else m.2.1 b j) = m.2.1 := by
    funext b j
    by_cases h : b = a ∧ j = k
    · rw [if_pos h, h.1, h.2]
    · rw [if_neg h]
  show (m.1, (fun b j => if b = a ∧ j = k then m.2.1 a k else m.2.1 b j), m.2.2.1, m.2.2.2) = m
  rw [e]
/-- so many bits of one byte -/
theorem num_byte (by_ : Nat → Nat) (p : Nat) : ∀ n : Nat, p % 8 + n ≤ 8 → num (ab by_) p n = by_ (p / 8) / 2 ^ (8 - p % 8 - n) % 2 ^ n
  | 0, _ => by simp [num, Nat.mod_one]
  | n + 1, h => by
    rw [num, num_byte by_ p n (by omega)]
    unfold ab
    rw [show (p + n) / 8 = p / 8 by omega, show (p + n) % 8 = p % 8 + n by omega]
    rw [show 8 - p % 8 - n = (8 - p % 8 - (n + 1)) + 1 by omega, show 7 - (p % 8 + n) = 8 - p % 8 - (n + 1) by omega]
    generalize hy : by_ (p / 8) / 2 ^ (8 - p % 8 - (n + 1)) = y
    rw [Nat.pow_succ (m := 8 - p % 8 - (n + 1)), ← Nat.div_div_eq_div_mul, hy]
    rw [Nat.pow_succ', Nat.mod_mul]
    omega
/-- bytes that lie at an address -/
def byR (m : Mem) (β : Nat) (by_ : Nat → Nat) (n : Nat) : Prop := ∀ i, i < n → gI m β i = nI (by_ i) ∧ by_ i < 256
theorem byR.on {p : Nat → Prop} {m m' : Mem} {β : Nat} {by_ : Nat → Nat} {n : Nat} (h : byR m β by_ n) (e : eqOn p m m') (hp : p β) : byR m' β by_ n := fun i hi => ⟨(e.I hp).trans (h i hi).1, (h i hi).2⟩
theorem byR.sI {m : Mem} {β a k : Nat} {v : Int32} {by_ : Nat → Nat} {n : Nat} (h : byR m β by_ n) (hb : β ≠ a) : byR (sI m a k v) β by_ n := fun i hi => ⟨(gI_sI_n (Or.inl hb)).trans (h i hi).1, (h i hi).2⟩
/-- the reader's hand on bytes: those at β, from pos on, up to lim -/
def tkR (K : Kn) (m : Mem) (r β : Nat) (by_ : Nat → Nat) (pos lim : Nat) : Prop := gR m r 7 = some β ∧ K β = some (.inr (0, 200)) ∧ β ≠ r ∧ gI m r 8 = nI pos ∧ gI m r 9 = nI lim ∧ lim ≤ 1600 ∧ pos ≤ lim ∧ byR m β by_ ((lim + 7) / 8)
theorem tkR.at {K : Kn} {m : Mem} {r β : Nat} {by_ : Nat → Nat} {pos lim : Nat} (h : tkR K m r β by_ pos lim) {p : Nat} (hp : p ≤ lim) : tkR K (sI m r 8 (nI p)) r β by_ p lim := by
  obtain ⟨h1, h2, h3, h4, h5, h6, h7, h8⟩ := h
  exact ⟨h1, h2, h3, gI_sI_s, by rw [gI_sIa]; simpa using h5, h6, hp, h8.sI h3⟩
theorem tk_body {K : Kn} {m : Mem} {r β : Nat} {by_ : Nat → Nat} {p lim : Nat} (h : tkR K m r β by_ p lim) {x1 : Int32} {kk : Mem → Int64 → Int32 → Option (Int64 × Mem)} {a left : Nat} (hl : 0 < left) (hp : p + left ≤ lim) (ha : a * 2 ^ left < 2 ^ 64) (ha2 : left ≤ 64) :
    ∃ now, 0 < now ∧ now ≤ left ∧ f_X6_takeBits_25B K r x1 kk m (lN a) (nI left) = kk (sI m r 8 (nI (p + now))) (lN (a * 2 ^ now + num (ab by_) p now)) (nI (left - now)) := by
  obtain ⟨h1, h2, h3, h4, h5, h6, h7, h8⟩ := h
  have hb := h8 (p / 8) (by omega)
  have e0 : (8 : Int32) - (gI m r 8 &&& (7 : Int32)) = nI (8 - p % 8) := by
    rw [h4, pk_andN (by omega) 3 (by decide), show (8 : Int32) = nI 8 from rfl, pk_sub (by omega)]
  have main : ∀ now, 0 < now → now ≤ left → p % 8 + now ≤ 8 → f_X6_takeBits_56 K r x1 kk m (lN a) (nI left) (nI (8 - p % 8)) (nI now) = kk (sI m r 8 (nI (p + now))) (lN (a * 2 ^ now + num (ab by_) p now)) (nI (left - now)) := by
    intro now n1 n2 n3
    unfold f_X6_takeBits_56
    rw [ldA_n h1 h2, bind_e, h4]
    rw [show nI p >>> ((3 : Int32) &&& 31) = nI (p / 2 ^ 3) from pk_shrN (by omega) _ 3 (by decide), alI_n (lenK_of h2) (by omega) (by omega), bind_e, hb.1]
    simp only [bd_e]
    rw [pk_sub (by omega), pk_shrN (by omega) (nI (8 - p % 8 - now) &&& 31) (8 - p % 8 - now) (s_l _ (by omega))]
    rw [show (1 : Int32) = nI 1 from rfl, pk_shlN (nI now &&& 31) now (s_l _ (by omega)) (by rw [Nat.one_mul]; exact Nat.lt_of_lt_of_le (Nat.pow_lt_pow_right (by omega) (show now < 9 by omega)) (by decide)), pk_sub (Nat.mul_pos (by decide) (Nat.two_pow_pos now)), Nat.one_mul, fa_mask]
    rw [← num_byte by_ p now n3]
    have hnl := num_lt (ab_lt by_) p now
    have hp2 : 2 ^ now ≤ 256 := Nat.pow_le_pow_right (n := 2) (by omega) (show now ≤ 8 by omega)
    rw [nI_l (by omega)]
    have hsplit : 2 ^ left = 2 ^ now * 2 ^ (left - now) := wb_pw n2
    have hlt : a * 2 ^ now + num (ab by_) p now < 2 ^ 64 := by
      have : (a + 1) * 2 ^ now ≤ 2 ^ 64 := by
        rw [hsplit, ← Nat.mul_assoc] at ha
        have h9 : a * 2 ^ now < 2 ^ (64 - (left - now)) := by
          have e : 2 ^ 64 = 2 ^ (64 - (left - now)) * 2 ^ (left - now) := by rw [← Nat.pow_add]; congr 1; omega
          rw [e] at ha
          exact Nat.lt_of_mul_lt_mul_right ha
        have e2 : 2 ^ (64 - (left - now)) = 2 ^ (64 - left) * 2 ^ now := by rw [← Nat.pow_add]; congr 1; omega
        rw [e2] at h9
        have h10 : a < 2 ^ (64 - left) := Nat.lt_of_mul_lt_mul_right h9
        calc (a + 1) * 2 ^ now ≤ 2 ^ (64 - left) * 2 ^ now := Nat.mul_le_mul_right _ h10
          _ ≤ 2 ^ 64 := by rw [← Nat.pow_add]; exact Nat.pow_le_pow_right (by omega) (by omega)
      rw [Nat.add_mul] at this
      omega
    rw [show lshl (lN a) (nI now) = lN (a * 2 ^ now) from wb_shl a (by omega), g_or rfl hnl hlt]
    rw [nI_add, pk_sub n2]
  unfold f_X6_takeBits_25B
  have c0 : ¬ nI left ≤ 0 := nI_nle hl (by omega)
  rw [if_neg c0, e0]
  simp only [bd_e]
  by_cases c1 : left ≤ 8 - p % 8
  · rw [if_pos ((nI_leI (by omega) (by omega)).mpr c1)]
    exact ⟨left, hl, Nat.le_refl _, main left hl (Nat.le_refl _) (by omega)⟩
  · rw [if_neg (fun z => c1 ((nI_leI (by omega) (by omega)).mp z))]
    exact ⟨8 - p % 8, by omega, by omega, main (8 - p % 8) (by omega) (by omega) (by omega)⟩
theorem tk_loop {K : Kn} {r β : Nat} {by_ : Nat → Nat} {lim : Nat} {x1 : Int32} : ∀ (n : Nat) (m : Mem) (p a left : Nat), left < n → tkR K m r β by_ p lim → p + left ≤ lim → a * 2 ^ left < 2 ^ 64 → left ≤ 64 → f_X6_takeBits_25 K r x1 n m (lN a) (nI left) = some (lN (a * 2 ^ left + num (ab by_) p left), sI m r 8 (nI (p + left)))
  | 0, _, _, _, _, h, _, _, _, _ => absurd h (Nat.not_lt_zero _)
  | n + 1, m, p, a, left, h, hR, hp, ha, h64 => by
    show f_X6_takeBits_25B K r x1 (f_X6_takeBits_25 K r x1 n) m (lN a) (nI left) = _
    by_cases hl : left = 0
    · subst hl
      unfold f_X6_takeBits_25B
      rw [if_pos (by decide : (nI 0 : Int32) ≤ 0)]
      rw [Nat.add_zero, sI_id hR.2.2.2.1]
      simp [num]
    · obtain ⟨now, n1, n2, e⟩ := tk_body hR (x1 := x1) (kk := f_X6_takeBits_25 K r x1 n) (a := a) (left := left) (by omega) hp ha h64
      rw [e]
      have hsplit : 2 ^ left = 2 ^ now * 2 ^ (left - now) := wb_pw n2
      have hnl := num_lt (ab_lt by_) p now
      have hb : (a * 2 ^ now + num (ab by_) p now) * 2 ^ (left - now) < 2 ^ 64 := by
        have e1 : 2 ^ 64 = 2 ^ (64 - left) * 2 ^ left := by rw [← Nat.pow_add]; congr 1; omega
        rw [e1] at ha ⊢
        have h10 : a < 2 ^ (64 - left) := Nat.lt_of_mul_lt_mul_right ha
        have h11 : a * 2 ^ now + num (ab by_) p now < (a + 1) * 2 ^ now := by rw [Nat.add_mul]; omega
        have h12 : (a + 1) * 2 ^ now * 2 ^ (left - now) ≤ 2 ^ (64 - left) * 2 ^ left := by
          rw [Nat.mul_assoc, ← hsplit]; exact Nat.mul_le_mul_right _ h10
        exact Nat.lt_of_lt_of_le (Nat.mul_lt_mul_of_pos_right h11 (Nat.two_pow_pos _)) h12
      rw [tk_loop n _ (p + now) _ (left - now) (by omega) (hR.at (by omega)) (by omega) hb (by omega)]
      rw [sI_sI, show p + now + (left - now) = p + left by omega]
      congr 3
      have := num_add (ab by_) p now (left - now)
      rw [show now + (left - now) = left by omega] at this
      rw [this, Nat.add_mul, Nat.mul_assoc, ← hsplit, Nat.add_assoc]
theorem take_ok {K : Kn} {m : Mem} {r β : Nat} {by_ : Nat → Nat} {pos lim w : Nat} (h : tkR K m r β by_ pos lim) (hw : w ≤ 64) (hp : pos + w ≤ lim) : F_X6_takeBits K m r (nI w) = some (lN (num (ab by_) pos w), sI m r 8 (nI (pos + w))) := by
  obtain ⟨h1, h2, h3, h4, h5, h6, h7, h8⟩ := id h
  unfold F_X6_takeBits f_X6_takeBits
  rw [h4, h5, pk_sub h7, if_pos ((nI_leI (by omega) (by omega)).mpr (by omega))]
  have := tk_loop (x1 := nI w) FU m pos 0 w (by rw [FU_e]; omega) h hp (by rw [Nat.zero_mul]; decide) hw
  rw [Nat.zero_mul, Nat.zero_add] at this
  exact this
theorem take_no {K : Kn} {m : Mem} {r β : Nat} {by_ : Nat → Nat} {pos lim w : Nat} (h : tkR K m r β by_ pos lim) (hw : w ≤ 64) (hp : lim < pos + w) : F_X6_takeBits K m r (nI w) = some (0, sI m r 10 1) := by
  obtain ⟨h1, h2, h3, h4, h5, h6, h7, h8⟩ := id h
  unfold F_X6_takeBits f_X6_takeBits
  rw [h4, h5, pk_sub h7, if_neg (fun z => absurd ((nI_leI (by omega) (by omega)).mp z) (by omega))]
  rfl
