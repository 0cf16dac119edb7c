/-! ===== bits written ===== -/
def cutf (g : Nat → Nat) (p q : Nat) : Nat := if q < p then g q else 0
/-- bits g up to p lie in the bytes behind the head, 0s behind them -/
def hbR (m : Mem) (β : Nat) (g : Nat → Nat) (p : Nat) : Prop := ∀ i, i < (p + 7) / 8 → gI m β (14 + i) = nI (num (cutf g p) (8 * i) 8)
/-- w bits of a number behind p bits -/
def ext (g : Nat → Nat) (p w N q : Nat) : Nat := if q < p then g q else N / 2 ^ (w - 1 - (q - p)) % 2
theorem num_zero {f : Nat → Nat} {p : Nat} : ∀ n, (∀ j, j < n → f (p + j) = 0) → num f p n = 0
  | 0, _ => rfl
  | n + 1, h => by rw [num, num_zero n (fun j hj => h j (by omega)), h n (by omega)]
theorem num_bits {G : Nat → Nat} {p N : Nat} : ∀ (n e : Nat), (∀ j, j < n → G (p + j) = N / 2 ^ (e + n - 1 - j) % 2) → num G p n = N / 2 ^ e % 2 ^ n
  | 0, e, _ => by simp [num, Nat.mod_one]
  | n + 1, e, h => by
    rw [num, num_bits n (e + 1) (fun j hj => by rw [h j (by omega), show e + 1 + n - 1 - j = e + (n + 1) - 1 - j by omega]), h n (by omega)]
    rw [show e + (n + 1) - 1 - n = e by omega, Nat.pow_succ (m := e), ← Nat.div_div_eq_div_mul, Nat.pow_succ' (m := 2) (n := n), Nat.mod_mul]
    omega
theorem num_ext (g : Nat → Nat) (p w N : Nat) : num (ext g p w N) p w = N % 2 ^ w := by
  rw [num_bits (N := N) w 0 (fun j hj => by unfold ext; rw [if_neg (by omega), show w - 1 - (p + j - p) = 0 + w - 1 - j by omega]), Nat.pow_zero, Nat.div_one]
theorem ext_lt {g : Nat → Nat} (hg : ∀ q, g q < 2) (p w N q : Nat) : ext g p w N q < 2 := by
  unfold ext
  split
  · exact hg q
  · exact Nat.mod_lt _ (by decide)
theorem cut_congr {f g : Nat → Nat} {p : Nat} (h : ∀ q, q < p → f q = g q) : cutf f p = cutf g p := by
  funext q
  unfold cutf
  by_cases c : q < p
  · rw [if_pos c, if_pos c, h q c]
  · rw [if_neg c, if_neg c]
theorem hbR.congr {m : Mem} {β : Nat} {f g : Nat → Nat} {p : Nat} (h : hbR m β f p) (e : ∀ q, q < p → f q = g q) : hbR m β g p := by
  unfold hbR at h ⊢
  rw [← cut_congr e]; exact h
theorem hbR.on {P : Nat → Prop} {m m' : Mem} {β : Nat} {g : Nat → Nat} {p : Nat} (h : hbR m β g p) (e : eqOn P m m') (hp : P β) : hbR m' β g p := fun i hi => (e.I hp).trans (h i hi)
/-- what writing bits leaves of a block -/
def wkp (a : Nat) (m m' : Mem) : Prop := eqOn (off a 2) m m' ∧ szm m' = szm m ∧ (∀ k, gR m' a k = gR m a k) ∧ (∀ k, k ≠ 2 → gI m' a k = gI m a k) ∧ (∀ i, i < 14 → gI m' (a + 1) i = gI m (a + 1) i)
theorem wkp.refl (a : Nat) (m : Mem) : wkp a m m := ⟨eqOn.refl m, rfl, fun _ => rfl, fun _ _ => rfl, fun _ _ => rfl⟩
theorem wkp.trans {a : Nat} {m m1 m2 : Mem} (h : wkp a m m1) (h' : wkp a m1 m2) : wkp a m m2 := ⟨h.1.trans h'.1, h'.2.1.trans h.2.1, fun k => (h'.2.2.1 k).trans (h.2.2.1 k), fun k hk => (h'.2.2.2.1 k hk).trans (h.2.2.2.1 k hk), fun i hi => (h'.2.2.2.2 i hi).trans (h.2.2.2.2 i hi)⟩
/-- bytes of bits -/
theorem byte_split {G : Nat → Nat} {p now : Nat} (h : p % 8 + now ≤ 8) : num (cutf G (p + now)) (8 * (p / 8)) 8 = 2 ^ (8 - p % 8) * num G (8 * (p / 8)) (p % 8) + num G p now * 2 ^ (8 - p % 8 - now) := by
  have e1 : num (cutf G (p + now)) (8 * (p / 8)) 8 = num (cutf G (p + now)) (8 * (p / 8)) (p % 8 + (now + (8 - p % 8 - now))) := by congr 1; omega
  rw [e1, num_add, num_add, show 8 * (p / 8) + p % 8 = p by omega]
  have z : num (cutf G (p + now)) (p + now) (8 - p % 8 - now) = 0 := num_zero _ (fun j hj => by unfold cutf; rw [if_neg (by omega)])
  have a1 : num (cutf G (p + now)) (8 * (p / 8)) (p % 8) = num G (8 * (p / 8)) (p % 8) := num_congr (fun q h1 h2 => by unfold cutf; rw [if_pos (by omega)])
  have a2 : num (cutf G (p + now)) p now = num G p now := num_congr (fun q h1 h2 => by unfold cutf; rw [if_pos (by omega)])
  rw [z, a1, a2, Nat.add_zero, Nat.mul_comm, show now + (8 - p % 8 - now) = 8 - p % 8 by omega]
theorem wb_body {K : Kn} {m : Mem} {a : Nat} {x : Int64} {x3 : Int32} {kk : Mem → Int32 → Option Mem} {p left : Nat} {G : Nat → Nat} (h0 : gR m a 0 = some (a + 1)) (hK : K (a + 1) = some (.inr (0, 200))) (h2 : gI m a 2 = nI p) (hb : hbR m (a + 1) G p) (hl : 0 < left) (hl2 : left ≤ 64) (hp : p + left ≤ 1488) (hG : ∀ j, j < left → G (p + j) = uN x / 2 ^ (left - 1 - j) % 2) :
    ∃ now m', 0 < now ∧ now ≤ left ∧ f_X0_writeBits_3B K a x x3 kk m (nI left) = kk m' (nI (left - now)) ∧ gI m' a 2 = nI (p + now) ∧ hbR m' (a + 1) G (p + now) ∧ wkp a m m' := by
  have main : ∀ now, 0 < now → now ≤ left → p % 8 + now ≤ 8 → ∃ m', f_X0_writeBits_45 K a x x3 kk m (nI left) (nI (14 + p / 8)) (nI (8 - p % 8)) (nI now) = kk m' (nI (left - now)) ∧ gI m' a 2 = nI (p + now) ∧ hbR m' (a + 1) G (p + now) ∧ wkp a m m' := by
    intro now n1 n2 n3
    unfold f_X0_writeBits_45
    rw [if_pos (show nI (14 + p / 8) < (200 : Int32) from (nI_ltI (b := 200) (by omega) (by omega)).mpr (by omega))]
    simp only [bd_e]
    have hpart : (lushr x (nI left - nI now)).toInt32 &&& ((1 : Int32) <<< (nI now &&& 31) - (1 : Int32)) = nI (num G p now) := by
      have e1 : lushr x (nI left - nI now) = lN (uN x / 2 ^ (left - now)) := by
        rw [pk_sub n2]
        have := lus (n := uN x) (uN_lt x) (left - now) (by omega)
        rw [lN_uN] at this
        exact this
      rw [e1, toI_lN, show (1 : Int32) = nI 1 from rfl, pk_shlN (nI now &&& 31) now (s_l _ (by omega)) (by rw [Nat.one_mul]; exact Nat.lt_of_lt_of_le (Nat.pow_lt_pow_right (by omega) (show now < 9 by omega)) (by decide)), pk_sub (Nat.mul_pos (by decide) (Nat.two_pow_pos now)), Nat.one_mul, fa_mask]
      rw [num_bits (N := uN x) now (left - now) (fun j hj => by rw [hG j (by omega), show left - now + now - 1 - j = left - 1 - j by omega])]
    rw [hpart]
    have hPlt : num G p now < 2 ^ now := by
      rw [num_bits (N := uN x) now (left - now) (fun j hj => by rw [hG j (by omega), show left - now + now - 1 - j = left - 1 - j by omega])]
      exact Nat.mod_lt _ (Nat.two_pow_pos _)
    have hnow8 : 2 ^ now ≤ 256 := Nat.pow_le_pow_right (n := 2) (by omega) (show now ≤ 8 by omega)
    have hsplit := byte_split (G := G) (p := p) (now := now) n3
    have hmul : num G p now * 2 ^ (8 - p % 8 - now) < 2 ^ (8 - p % 8) := by
      have : 2 ^ (8 - p % 8) = 2 ^ now * 2 ^ (8 - p % 8 - now) := by rw [← Nat.pow_add]; congr 1; omega
      rw [this]
      exact Nat.mul_lt_mul_of_pos_right hPlt (Nat.two_pow_pos _)
    have h256 : 2 ^ (8 - p % 8) ≤ 256 := Nat.pow_le_pow_right (n := 2) (by omega) (show 8 - p % 8 ≤ 8 by omega)
    have fin : ∀ old : Int32, old = nI (2 ^ (8 - p % 8) * num G (8 * (p / 8)) (p % 8)) → ∃ m', f_X0_writeBits_91 K a x x3 kk m (nI left) (nI (14 + p / 8)) (nI (8 - p % 8)) (nI now) (nI (num G p now)) old = kk m' (nI (left - now)) ∧ gI m' a 2 = nI (p + now) ∧ hbR m' (a + 1) G (p + now) ∧ wkp a m m' := by
      intro old hold
      unfold f_X0_writeBits_91
      rw [ldA_n h0 hK, bind_e, asI_n (lenK_of hK) (by omega) (by omega), bind_e]
      simp only [bd_e]
      rw [pk_sub (show now ≤ 8 - p % 8 by omega), pk_shlN (nI (8 - p % 8 - now) &&& 31) (8 - p % 8 - now) (s_l _ (by omega)) (by omega), hold, fa_or_sum _ hmul, ← hsplit]
      rw [gI_sI_n (Or.inl (by omega)), h2, nI_add, pk_sub n2]
      refine ⟨_, rfl, gI_sI_s, ?_, ?_⟩
      · intro i hi
        rw [gI_sI_n (Or.inl (by omega)), gI_sIa]
        by_cases ci : i = p / 8
        · rw [if_pos (by omega), ci]
        · rw [if_neg (by omega), hb i (by omega), show num (cutf G p) (8 * i) 8 = num (cutf G (p + now)) (8 * i) 8 from num_congr (fun q h1 h2 => by unfold cutf; rw [if_pos (by omega), if_pos (by omega)])]
      · refine ⟨fun q hq k => ?_, rfl, fun _ => rfl, fun k hk => ?_, fun i hi => ?_⟩
        · have : q ≠ a ∧ q ≠ a + 1 := by unfold off at hq; omega
          exact ⟨by rw [gI_sI_n (Or.inl this.1), gI_sI_n (Or.inl this.2)], rfl, rfl⟩
        · rw [gI_sI_n (Or.inr hk), gI_sI_n (Or.inl (by omega))]
        · rw [gI_sI_n (Or.inl (by omega)), gI_sI_n (Or.inr (by omega))]
    by_cases c8 : p % 8 = 0
    · rw [if_pos (show nI (8 - p % 8) = (8 : Int32) by rw [c8]; rfl)]
      exact fin 0 (by rw [c8]; rfl)
    · rw [if_neg (show ¬ nI (8 - p % 8) = (8 : Int32) from fun z => by rw [show (8 : Int32) = nI 8 from rfl, nI_eq (by omega) (by omega)] at z; omega), ldA_n h0 hK, bind_e, alI_n (lenK_of hK) (by omega) (by omega), bind_e]
      refine fin _ ?_
      rw [hb (p / 8) (by omega)]
      have := byte_split (G := G) (p := p) (now := 0) (by omega)
      rw [Nat.add_zero] at this
      rw [this]
      simp [num]
  unfold f_X0_writeBits_3B
  rw [if_neg (nI_nle hl (by omega)), h2]
  simp only [bd_e]
  rw [show nI p >>> ((3 : Int32) &&& 31) = nI (p / 2 ^ 3) from pk_shrN (by omega) _ 3 (by decide), show (14 : Int32) = nI 14 from rfl, nI_add, pk_andN (by omega) 3 (by decide), show (8 : Int32) = nI 8 from rfl, pk_sub (by omega)]
  by_cases c1 : left ≤ 8 - p % 8
  · rw [if_pos ((nI_leI (by omega) (by omega)).mpr c1)]
    obtain ⟨m', q⟩ := main left hl (Nat.le_refl _) (by omega)
    exact ⟨left, m', hl, Nat.le_refl _, q⟩
  · rw [if_neg (fun z => c1 ((nI_leI (by omega) (by omega)).mp z))]
    obtain ⟨m', q⟩ := main (8 - p % 8) (by omega) (by omega) (by omega)
    exact ⟨8 - p % 8, m', by omega, by omega, q⟩
theorem wb_loop {K : Kn} {a : Nat} {x : Int64} {x3 : Int32} {G : Nat → Nat} (hK : K (a + 1) = some (.inr (0, 200))) : ∀ (f : Nat) (m : Mem) (p left : Nat), left < f → gR m a 0 = some (a + 1) → gI m a 2 = nI p → hbR m (a + 1) G p → left ≤ 64 → p + left ≤ 1488 → (∀ j, j < left → G (p + j) = uN x / 2 ^ (left - 1 - j) % 2) →
    ∃ m', f_X0_writeBits_3 K a x x3 f m (nI left) = some m' ∧ gI m' a 2 = nI (p + left) ∧ hbR m' (a + 1) G (p + left) ∧ wkp a m m'
  | 0, _, _, _, h, _, _, _, _, _, _ => absurd h (Nat.not_lt_zero _)
  | f + 1, m, p, left, hf, h0, h2, hb, h64, hp, hG => by
    have unf : f_X0_writeBits_3 K a x x3 (f + 1) m (nI left) = f_X0_writeBits_3B K a x x3 (f_X0_writeBits_3 K a x x3 f) m (nI left) := rfl
    rw [unf]
    by_cases hl : left = 0
    · subst hl
      unfold f_X0_writeBits_3B
      rw [if_pos (by decide : (nI 0 : Int32) ≤ 0)]
      exact ⟨m, rfl, h2, hb, wkp.refl a m⟩
    · obtain ⟨now, m1, n1, n2, e, g2, gb, gk⟩ := wb_body (x := x) (x3 := x3) (kk := f_X0_writeBits_3 K a x x3 f) h0 hK h2 hb (by omega) h64 hp hG
      rw [e]
      obtain ⟨m2, r1, r2, r3, r4⟩ := wb_loop hK f m1 (p + now) (left - now) (by omega) ((gk.2.2.1 0).trans h0) g2 gb (by omega) (by omega) (fun j hj => by
        rw [Nat.add_assoc, hG (now + j) (by omega), show left - 1 - (now + j) = left - now - 1 - j by omega])
      rw [show p + now + (left - now) = p + left by omega] at r2 r3
      exact ⟨m2, r1, r2, r3, gk.trans r4⟩
theorem writeBits_ok {K : Kn} {m : Mem} {a p w : Nat} {x : Int64} {g : Nat → Nat} (hK : K (a + 1) = some (.inr (0, 200))) (h0 : gR m a 0 = some (a + 1)) (h2 : gI m a 2 = nI p) (hb : hbR m (a + 1) g p) (hw : w ≤ 64) (hp : p + w ≤ 1488) :
    ∃ m', F_X0_writeBits K m a x (nI w) = some m' ∧ gI m' a 2 = nI (p + w) ∧ hbR m' (a + 1) (ext g p w (uN x)) (p + w) ∧ wkp a m m' := by
  refine wb_loop (G := ext g p w (uN x)) hK FU m p w (by rw [FU_e]; omega) h0 h2 (hb.congr (fun q hq => by unfold ext; rw [if_pos hq])) hw hp (fun j hj => ?_)
  unfold ext
  rw [if_neg (by omega), Nat.add_sub_cancel_left]
/-- chunks, one behind the other -/
def exts (g : Nat → Nat) (p : Nat) : List (Nat × Nat) → (Nat → Nat)
  | [] => g
  | c :: l => exts (ext g p c.2 c.1) (p + c.2) l
theorem exts_eq : ∀ (l : List (Nat × Nat)) (g : Nat → Nat) (p : Nat), chOk l → ∀ q, q < p + chW l → exts g p l q = ext g p (chW l) (chN l) q
  | [], g, p, _, q, hq => by
    unfold exts ext
    simp only [chW] at hq
    rw [if_pos (by omega)]
  | c :: l, g, p, hl, q, hq => by
    have hl2 : chOk l := fun x hx => hl x (List.mem_cons_of_mem _ hx)
    have hN := chN_lt hl2
    simp only [chW] at hq
    rw [exts, exts_eq l _ _ hl2 q (by omega)]
    unfold ext
    simp only [chW, chN]
    by_cases c1 : q < p
    · rw [if_pos (by omega), if_pos c1, if_pos c1]
    · rw [if_neg c1]
      by_cases c2 : q < p + c.2
      · rw [if_pos c2, if_neg c1, show c.2 + chW l - 1 - (q - p) = chW l + (c.2 - 1 - (q - p)) by omega, Nat.pow_add, ← Nat.div_div_eq_div_mul]
        rw [Nat.mul_comm c.1, Nat.mul_add_div (Nat.two_pow_pos _), Nat.div_eq_of_lt hN, Nat.add_zero]
      · rw [if_neg c2, if_neg c1]
        have e : c.2 + chW l - 1 - (q - p) = chW l - 1 - (q - (p + c.2)) := by omega
        rw [e]
        have e2 : 2 ^ chW l = 2 ^ (chW l - 1 - (q - (p + c.2))) * (2 * 2 ^ (q - (p + c.2))) := by
          rw [← Nat.pow_succ', ← Nat.pow_add]; congr 1; omega
        generalize chW l - 1 - (q - (p + c.2)) = z at e2 ⊢
        rw [e2, ← Nat.mul_assoc, Nat.mul_comm c.1, Nat.mul_assoc, Nat.mul_add_div (Nat.two_pow_pos _)]
        rw [← Nat.mul_assoc, Nat.mul_comm c.1 2, Nat.mul_assoc]
        omega
