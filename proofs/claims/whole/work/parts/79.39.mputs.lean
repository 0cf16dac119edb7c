/-! ===== the reference writes bits ===== -/
theorem sar_mask (x : Int64) {k w : Nat} (hk : k < 64) (hw : k + w ≤ 64) (hw1 : w < 64) : lshr x (nI k) &&& lN (2 ^ w - 1) = lN (uN x / 2 ^ k % 2 ^ w) := by
  unfold lshr
  rw [wb_c k hk]
  apply wb_inj
  rw [Int64.toBitVec_and, Int64.toBitVec_shiftRight, wb_tb, wb_tb, wb_tb, wb_sm k hk]
  apply BitVec.eq_of_getLsbD_eq
  intro i hi
  rw [BitVec.getLsbD_and, BitVec.sshiftRight_eq', BitVec.getLsbD_sshiftRight, BitVec.toNat_ofNat, Nat.mod_eq_of_lt (show k < 2 ^ 64 by omega), BitVec.getLsbD_ofNat, BitVec.getLsbD_ofNat, Nat.testBit_two_pow_sub_one, Nat.testBit_mod_two_pow, Nat.testBit_div_two_pow]
  have e : x.toBitVec.getLsbD (k + i) = (uN x).testBit (i + k) := by rw [Nat.add_comm]; rfl
  by_cases c : i < w
  · rw [if_pos (show k + i < 64 by omega), e]
    simp [c, show ¬ 64 ≤ i by omega, hi]
  · simp [c]
theorem bit_of (x : Int64) {k : Nat} (hk : k < 64) : ((lshr x (nI k)) &&& (1 : Int64)).toInt32 = nI (uN x / 2 ^ k % 2) := by
  have := sar_mask x (w := 1) hk (by omega) (by omega)
  have e : lshr x (nI k) &&& (1 : Int64) = lN (uN x / 2 ^ k % 2 ^ 1) := this
  rw [e, l2i_lN, Nat.pow_one]
def hbM (m : Mem) (A q : Nat) (g : Nat → Nat) (p : Nat) : Prop := ∀ i, i < (p + 7) / 8 → gI m (A + 4) (200 * q + 14 + i) = nI (num (cutf g p) (8 * i) 8)
theorem hbM.congr {m : Mem} {A q : Nat} {f g : Nat → Nat} {p : Nat} (h : hbM m A q f p) (e : ∀ q, q < p → f q = g q) : hbM m A q g p := by
  unfold hbM at h ⊢
  rw [← cut_congr e]; exact h
def WP (A q : Nat) : Nat → Nat → Prop := fun a k => (a = A ∧ k = 20) ∨ (a = A + 4 ∧ 200 * q + 14 ≤ k ∧ k < 200 * q + 200)
def wsM (K : Kn) (m : Mem) (A q p : Nat) (g : Nat → Nat) : Prop := MS K m A ∧ gI m A 20 = nI p ∧ hbM m A q g p
theorem hbM.on {W : Nat → Nat → Prop} {m m' : Mem} {A q : Nat} {g : Nat → Nat} {p : Nat} (h : hbM m A q g p) (e : fr W m m') (hw : ∀ k, ¬ W (A + 4) k) : hbM m' A q g p := fun i hi => (e.I (hw _)).trans (h i hi)
theorem pu_one {K : Kn} {m : Mem} {A q p k : Nat} {x : Int64} {x4 : Int32} {k6 : Mem → Int32 → Option Mem} {G : Nat → Nat} (h : wsM K m A q p G) (hq : q < 80) (hp : p < 1488) (hk : k < 64) (hG : G p = uN x / 2 ^ k % 2) : ∃ m', f_X9_puts_6B K A (nI q) x x4 k6 m (nI k) = k6 m' (nI k + (-1 : Int32)) ∧ wsM K m' A q (p + 1) G ∧ fr (WP A q) m m' := by
  obtain ⟨h1, h2, h3⟩ := h
  have hb2 : uN x / 2 ^ k % 2 < 2 := Nat.mod_lt _ (by decide)
  have core : ∀ m0 : Mem, MS K m0 A → gI m0 A 20 = nI p → gI m0 (A + 4) (200 * q + 14 + p / 8) = nI (2 ^ (8 - p % 8) * num G (8 * (p / 8)) (p % 8)) → fr (WP A q) m m0 → (∀ i, i < (p + 7) / 8 → i ≠ p / 8 → gI m0 (A + 4) (200 * q + 14 + i) = nI (num (cutf G p) (8 * i) 8)) → ∃ m', f_X9_puts_47 K A (nI q) x x4 k6 m0 (nI k) (nI (200 * q + 14 + p / 8)) = k6 m' (nI k + (-1 : Int32)) ∧ wsM K m' A q (p + 1) G ∧ fr (WP A q) m m' := fun m0 a1 a2 a3 a4 a5 => by
    unfold f_X9_puts_47
    rw [a1.d3, bind_e, a1.g3 (by omega), bind_e, a3, a2, bit_of x hk, show (8 : Int32) = nI 8 from rfl, pk_rem (by omega) (by omega) (by omega), show (7 : Int32) = nI 7 from rfl, pk_sub (by omega)]
    have hsh : nI (uN x / 2 ^ k % 2) <<< (nI (7 - p % 8) &&& 31) = nI (uN x / 2 ^ k % 2 * 2 ^ (7 - p % 8)) := by
      have h128 : 2 ^ (7 - p % 8) ≤ 128 := Nat.pow_le_pow_right (n := 2) (by omega) (show 7 - p % 8 ≤ 7 by omega)
      exact pk_shlN (nI (7 - p % 8) &&& 31) (7 - p % 8) (s_l _ (by omega)) (by
        have : uN x / 2 ^ k % 2 * 2 ^ (7 - p % 8) ≤ 1 * 128 := Nat.mul_le_mul (by omega) h128
        omega)
    have hlt : uN x / 2 ^ k % 2 * 2 ^ (7 - p % 8) < 2 ^ (8 - p % 8) := by
      rw [show 8 - p % 8 = (7 - p % 8) + 1 by omega, Nat.pow_succ]
      have hpos := Nat.two_pow_pos (7 - p % 8)
      have : uN x / 2 ^ k % 2 * 2 ^ (7 - p % 8) ≤ 1 * 2 ^ (7 - p % 8) := Nat.mul_le_mul_right _ (by omega)
      omega
    rw [hsh, fa_or_sum _ hlt]
    have hsp := byte_split (G := G) (p := p) (now := 1) (by omega)
    rw [num_one, hG, show 8 - p % 8 - 1 = 7 - p % 8 by omega] at hsp
    rw [← hsp, a1.s3 (by omega), bind_e, bd_e, bd_e, gI_sI_n (Or.inl (by omega)), a2, nI_1]
    have fM : fr (WP A q) m0 (sI (sI m0 (A + 4) (200 * q + 14 + p / 8) (nI (num (cutf G (p + 1)) (8 * (p / 8)) 8))) A 20 (nI (p + 1))) := (fr_sI (Or.inr ⟨rfl, by omega, by omega⟩)).trans (fr_sI (Or.inl ⟨rfl, rfl⟩))
    refine ⟨_, rfl, ⟨a1.on fM, gI_sI_s, fun i hi => ?_⟩, a4.trans fM⟩
    rw [gI_sI_n (Or.inl (by omega))]
    by_cases c : i = p / 8
    · rw [c, gI_sI_s]
    · rw [gI_sI_n (Or.inr (by omega)), a5 i (by omega) c]
      rw [show num (cutf G p) (8 * i) 8 = num (cutf G (p + 1)) (8 * i) 8 from num_congr (fun q h1 h2 => by unfold cutf; rw [if_pos (by omega), if_pos (by omega)])]
  unfold f_X9_puts_6B
  rw [if_neg (fun z => by have := (nI_ltI (b := 0) (by omega) (by omega)).mp z; omega), h2, bd_e, show (200 : Int32) = nI 200 from rfl, show (14 : Int32) = nI 14 from rfl, show (8 : Int32) = nI 8 from rfl, pk_rem (by omega) (by omega) (by omega), pk_div (by omega) (by omega) (by omega), nI_mul, nI_add, nI_add]
  by_cases c8 : p % 8 = 0
  · rw [if_pos ((nI_zero (by omega)).mpr c8), h1.d3, bind_e, h1.s3 (by omega), bind_e]
    have f0 : fr (WP A q) m (sI m (A + 4) (200 * q + 14 + p / 8) 0) := fr_sI (Or.inr ⟨rfl, by omega, by omega⟩)
    refine core _ (h1.on f0) ?_ ?_ f0 (fun i hi hne => ?_)
    · rw [gI_sI_n (Or.inl (by omega))]; exact h2
    · rw [gI_sI_s, c8]; rfl
    · rw [gI_sI_n (Or.inr (by omega))]; exact h3 i hi
  · rw [if_neg (fun z => c8 ((nI_zero (by omega)).mp z))]
    refine core m h1 h2 ?_ (fr.refl m) (fun i hi _ => h3 i hi)
    rw [h3 (p / 8) (by omega)]
    have := byte_split (G := G) (p := p) (now := 0) (by omega)
    rw [Nat.add_zero] at this
    rw [this]
    simp [num]
theorem pu_loop {K : Kn} {A q : Nat} {x : Int64} {x4 : Int32} {G : Nat → Nat} (hq : q < 80) : ∀ (f : Nat) (m : Mem) (p left : Nat), left < f → wsM K m A q p G → left ≤ 64 → p + left ≤ 1488 → (∀ j, j < left → G (p + j) = uN x / 2 ^ (left - 1 - j) % 2) → ∃ m', f_X9_puts_6 K A (nI q) x x4 f m (nI left - (1 : Int32)) = some m' ∧ wsM K m' A q (p + left) G ∧ fr (WP A q) m m'
  | 0, _, _, _, h, _, _, _, _ => absurd h (Nat.not_lt_zero _)
  | f + 1, m, p, left, hf, h, h64, hp, hG => by
    have unf : ∀ y, f_X9_puts_6 K A (nI q) x x4 (f + 1) m y = f_X9_puts_6B K A (nI q) x x4 (f_X9_puts_6 K A (nI q) x x4 f) m y := fun _ => rfl
    rw [unf]
    by_cases hl : left = 0
    · subst hl
      unfold f_X9_puts_6B
      rw [if_pos (by decide)]
      exact ⟨m, rfl, h, fr.refl m⟩
    · rw [show (1 : Int32) = nI 1 from rfl, pk_sub (by omega)]
      obtain ⟨m1, e1, e2, e3⟩ := pu_one (k := left - 1) (x := x) (x4 := x4) (k6 := f_X9_puts_6 K A (nI q) x x4 f) h hq (by omega) (by omega) (by have := hG 0 (by omega); rw [Nat.add_zero, Nat.sub_zero] at this; exact this)
      rw [e1]
      obtain ⟨m2, r1, r2, r3⟩ := pu_loop hq f m1 (p + 1) (left - 1) (by omega) e2 (by omega) (by omega) (fun j hj => by
        rw [Nat.add_assoc, Nat.add_comm 1 j, hG (j + 1) (by omega), show left - 1 - (j + 1) = left - 1 - 1 - j by omega])
      rw [show p + 1 + (left - 1) = p + left by omega] at r2
      have ea : nI (left - 1) + (-1 : Int32) = nI (left - 1) - (1 : Int32) := by
        apply Int32.toBitVec_inj.mp
        simp [BitVec.sub_eq_add_neg]
      rw [ea]
      exact ⟨m2, r1, r2, e3.trans r3⟩
theorem puts_ok {K : Kn} {m : Mem} {A q p w v : Nat} {x : Int64} {g : Nat → Nat} (hq : q < 80) (h : wsM K m A q p g) (hx : uN x % 2 ^ w = v) (hw : w ≤ 64) (hp : p + w ≤ 1488) : ∃ m', F_X9_puts K m A (nI q) x (nI w) = some m' ∧ wsM K m' A q (p + w) (ext g p w v) ∧ fr (WP A q) m m' := by
  unfold F_X9_puts f_X9_puts
  rw [bd_e]
  refine pu_loop (G := ext g p w v) hq FU m p w (by rw [FU_e]; omega) ⟨h.1, h.2.1, h.2.2.congr (fun q hq => by unfold ext; rw [if_pos hq])⟩ hw hp (fun j hj => ?_)
  unfold ext
  rw [if_neg (by omega), Nat.add_sub_cancel_left, ← hx, mod_bit (by omega)]
theorem takesBits_ok {K : Kn} {m : Mem} {A : Nat} {c : Cs} (h : csM m A c) (hc : csOk c) {t : Nat} (ht1 : c.1 ≤ t) (ht : t ≤ 2000000000) (v : Int64) : F_X9_takesBits K m A (lN t) v = some (nI (costA c t v)) := by
  obtain ⟨b1, b2, b3⟩ := id hc
  have hsec : secA c t = (t : Int) - c.1 - c.2.1 := rfl
  have hk := kindA_le (secA c t)
  unfold F_X9_takesBits f_X9_takesBits f_X9_takesBits_83
  rw [h.1, h.2.1, h.2.2.1]
  have es : lN t - lN c.1 - lN c.2.1 = lZ (secA c t) := by rw [← lZ_nat, ← lZ_nat, ← lZ_nat, lZ_sub, lZ_sub]; rfl
  rw [es, classOf_ok (by omega) (by omega), bind_e, bd_e, wayOf_ok h b3, bind_e, signsOf_ok hk, bind_e, wideOf_ok hk, bind_e, nI_add]
  have hcost := costA_e c t v
  have hwl : wayA c.2.2.2 (v ^^^ c.2.2.1) < 8 := by rcases wayA_cases c.2.2.2 (v ^^^ c.2.2.1) with h | h | h <;> omega
  have i5 : nI (wayA c.2.2.2 (v ^^^ c.2.2.1)) = (5 : Int32) ↔ wayA c.2.2.2 (v ^^^ c.2.2.1) = 5 := nI_eq (b := 5) (by omega) (by omega)
  have i6 : nI (wayA c.2.2.2 (v ^^^ c.2.2.1)) = (6 : Int32) ↔ wayA c.2.2.2 (v ^^^ c.2.2.1) = 6 := nI_eq (b := 6) (by omega) (by omega)
  rcases wayA_cases c.2.2.2 (v ^^^ c.2.2.1) with ⟨g1, g2⟩ | ⟨g1, g2⟩ | ⟨g1, g2, l, tt, g3, g4, g5⟩
  · rw [if_pos g2] at hcost
    rw [if_pos (i5.mpr g2), show (1 : Int32) = nI 1 from rfl, nI_add, hcost]
  · rw [if_neg (by omega), if_neg (by omega)] at hcost
    rw [if_neg (fun z => by have := i5.mp z; omega), if_neg (fun z => by have := i6.mp z; omega), wideAnew_ok g1, bind_e, show (13 : Int32) = nI 13 from rfl, nI_add, nI_add, hcost]
  · rw [if_neg (by omega), if_pos g2] at hcost
    have h4 := h.2.2.2
    rw [g3] at h4 b3
    have b3 : l ≤ 31 ∧ l + tt ≤ 63 := b3
    have eW : winW c.2.2.2 = 64 - l - tt := by rw [g3]; rfl
    rw [if_neg (fun z => by have := i5.mp z; omega), if_pos (i6.mpr g2), h4.2.1, h4.2.2, show (66 : Int32) = nI 66 from rfl, pk_sub (by omega), pk_sub (by omega), nI_add, hcost, eW, show 66 - l - tt = 2 + (64 - l - tt) by omega]
