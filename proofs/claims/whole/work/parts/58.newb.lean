/-! ===== blocks: begun, a point more, sealed ===== -/
theorem num_ab8 {by_ : Nat → Nat} {i : Nat} (h : by_ i < 256) : num (ab by_) (8 * i) 8 = by_ i := by
  rw [num_byte by_ (8 * i) 8 (by omega), show 8 * i / 8 = i by omega, show 8 - 8 * i % 8 - 8 = 0 by omega, Nat.pow_zero, Nat.div_one]
  exact Nat.mod_eq_of_lt h
theorem num_bit {F : Nat → Nat} (hF : ∀ q, F q < 2) (s : Nat) : ∀ (n j : Nat), j < n → num F s n / 2 ^ (n - 1 - j) % 2 = F (s + j)
  | 0, _, h => absurd h (Nat.not_lt_zero _)
  | n + 1, j, h => by
    have h1 := hF (s + n)
    by_cases c : j = n
    · subst c
      rw [show j + 1 - 1 - j = 0 by omega, num, Nat.pow_zero, Nat.div_one]
      omega
    · rw [num, show n + 1 - 1 - j = (n - 1 - j) + 1 by omega, Nat.pow_succ', ← Nat.div_div_eq_div_mul, show (2 * num F s n + F (s + n)) / 2 = num F s n by omega]
      exact num_bit hF s n j (by omega)
theorem num_bytes {by_ : Nat → Nat} (i : Nat) : ∀ n, (∀ k, k < n → by_ (i + k) < 256) → num (ab by_) (8 * i) (8 * (n + 1)) = num (ab by_) (8 * i) (8 * n) * 256 + num (ab by_) (8 * (i + n)) 8 := by
  intro n _
  rw [show 8 * (n + 1) = 8 * n + 8 by omega, num_add, show 8 * i + 8 * n = 8 * (i + n) by omega]
theorem hct_e {by_ : Nat → Nat} (h1 : by_ 12 < 256) (h2 : by_ 13 < 256) : hct by_ = by_ 12 * 256 + by_ 13 := by
  unfold hct
  have a := num_add (ab by_) 96 8 8
  have b := num_ab8 (by_ := by_) (i := 12) h1
  have c := num_ab8 (by_ := by_) (i := 13) h2
  simp only [show 8 * 12 = 96 from rfl, show 8 * 13 = 104 from rfl, show 8 + 8 = 16 from rfl, show 96 + 8 = 104 from rfl, show 2 ^ 8 = 256 from rfl] at a b c
  rw [a, b, c]
theorem hst_e {by_ : Nat → Nat} (h : ∀ i, i < 4 → by_ i < 256) : hst by_ = by_ 0 * 16777216 + by_ 1 * 65536 + by_ 2 * 256 + by_ 3 := by
  unfold hst
  have a0 := num_ab8 (by_ := by_) (i := 0) (h 0 (by omega))
  have a1 := num_ab8 (by_ := by_) (i := 1) (h 1 (by omega))
  have a2 := num_ab8 (by_ := by_) (i := 2) (h 2 (by omega))
  have a3 := num_ab8 (by_ := by_) (i := 3) (h 3 (by omega))
  have b3 := num_add (ab by_) 0 24 8
  have b2 := num_add (ab by_) 0 16 8
  have b1 := num_add (ab by_) 0 8 8
  simp only [show 8 * 0 = 0 from rfl, show 8 * 1 = 8 from rfl, show 8 * 2 = 16 from rfl, show 8 * 3 = 24 from rfl, show 24 + 8 = 32 from rfl, show 16 + 8 = 24 from rfl, show 8 + 8 = 16 from rfl, Nat.zero_add, show 2 ^ 8 = 256 from rfl] at a0 a1 a2 a3 b1 b2 b3
  rw [b3, b2, b1, a0, a1, a2, a3]
  omega
theorem hvl_e {by_ : Nat → Nat} (h : ∀ i, i < 12 → by_ i < 256) : num (ab by_) 32 64 = ((((((by_ 4 * 256 + by_ 5) * 256 + by_ 6) * 256 + by_ 7) * 256 + by_ 8) * 256 + by_ 9) * 256 + by_ 10) * 256 + by_ 11 := by
  have a4 := num_ab8 (by_ := by_) (i := 4) (h 4 (by omega))
  have a5 := num_ab8 (by_ := by_) (i := 5) (h 5 (by omega))
  have a6 := num_ab8 (by_ := by_) (i := 6) (h 6 (by omega))
  have a7 := num_ab8 (by_ := by_) (i := 7) (h 7 (by omega))
  have a8 := num_ab8 (by_ := by_) (i := 8) (h 8 (by omega))
  have a9 := num_ab8 (by_ := by_) (i := 9) (h 9 (by omega))
  have a10 := num_ab8 (by_ := by_) (i := 10) (h 10 (by omega))
  have a11 := num_ab8 (by_ := by_) (i := 11) (h 11 (by omega))
  have b7 := num_add (ab by_) 32 56 8
  have b6 := num_add (ab by_) 32 48 8
  have b5 := num_add (ab by_) 32 40 8
  have b4 := num_add (ab by_) 32 32 8
  have b3 := num_add (ab by_) 32 24 8
  have b2 := num_add (ab by_) 32 16 8
  have b1 := num_add (ab by_) 32 8 8
  simp only [Nat.reduceMul, Nat.reduceAdd, Nat.reducePow] at a4 a5 a6 a7 a8 a9 a10 a11 b1 b2 b3 b4 b5 b6 b7
  rw [b7, b6, b5, b4, b3, b2, b1, a4, a5, a6, a7, a8, a9, a10, a11]
/-- the head of a block with one point -/
def hdF (t : Nat) (v : Int64) (i : Nat) : Nat := if i < 4 then t / 2 ^ (24 - 8 * i) % 256 else if i < 12 then uN v / 2 ^ (56 - 8 * (i - 4)) % 256 else if i = 12 then 0 else 1
def nwB (t : Nat) (v : Int64) : Bk := (hdF t v, 14, false, t, t)
theorem hdF_lt (t : Nat) (v : Int64) (i : Nat) : hdF t v i < 256 := by
  unfold hdF
  split
  · exact Nat.mod_lt _ (by decide)
  split
  · exact Nat.mod_lt _ (by decide)
  split <;> decide
theorem hdF_cs {t : Nat} (ht : t < 4294967296) (v : Int64) : cs0 (hdF t v) = (t, 0, v, none) ∧ hct (hdF t v) = 1 := by
  have e1 : hst (hdF t v) = t := by
    rw [hst_e (fun i _ => hdF_lt t v i)]
    simp only [hdF, Nat.reduceLT, if_true, Nat.reduceMul, Nat.reduceSub, Nat.reducePow]
    omega
  have e2 : hvl (hdF t v) = v := by
    unfold hvl
    rw [hvl_e (fun i _ => hdF_lt t v i)]
    have h := uN_lt v
    simp only [hdF, Nat.reduceLT, if_true, if_false, Nat.reduceMul, Nat.reduceSub, Nat.reducePow]
    rw [show ((((((uN v / 72057594037927936 % 256 * 256 + uN v / 281474976710656 % 256) * 256 + uN v / 1099511627776 % 256) * 256 + uN v / 4294967296 % 256) * 256 + uN v / 16777216 % 256) * 256 + uN v / 65536 % 256) * 256 + uN v / 256 % 256) * 256 + uN v / 1 % 256 = uN v by omega, lN_uN]
  refine ⟨?_, ?_⟩
  · unfold cs0; rw [e1, e2]
  · rw [hct_e (hdF_lt t v 12) (hdF_lt t v 13)]
    simp [hdF]
theorem nwB_opn {t : Nat} (ht : t ≤ 2000000000) (v : Int64) : opn (nwB t v).1 14 0 (t, 0, v, none) [(t, v, 0, 9, 9)] := by
  obtain ⟨e1, e2⟩ := hdF_cs (show t < 4294967296 by omega) v
  have e3 : hst (hdF t v) = t := congrArg Prod.fst e1
  refine ⟨?_, rfl, rfl, ?_, ?_, ?_⟩
  · show rdN (fb (hdF t v) 0) 0 (cs0 (hdF t v)) (hct (hdF t v) - 1) = _
    rw [e2, e1]; rfl
  · show 1 ≤ hct (hdF t v); omega
  · show hst (hdF t v) ≤ _; omega
  · exact ⟨ht, Nat.zero_le _, trivial⟩
theorem nwB_ok {t : Nat} (ht : t ≤ 2000000000) (v : Int64) : bkOk (nwB t v) := by
  refine ⟨fun i _ => hdF_lt t v i, by simp [nwB], by simp [nwB], fun z => absurd z (by simp [nwB]), fun _ => ⟨by simp [nwB], 0, _, _, nwB_opn ht v, ?_, rfl⟩, Nat.le_refl _, ht⟩
  exact congrArg Prod.fst (hdF_cs (show t < 4294967296 by omega) v).1
/-- bytes with a point more -/
def wrF (by_ : Nat → Nat) (p w N : Nat) (i : Nat) : Nat := if i = 12 then (hct by_ + 1) / 256 else if i = 13 then (hct by_ + 1) % 256 else if i < 14 then by_ i else num (cutf (ext (fb by_ p) p w N) (p + w)) (8 * (i - 14)) 8
def wrB (b : Bk) (p : Nat) (c : Cs) (t : Nat) (v : Int64) : Bk := (wrF b.1 p (costA c t v) (chN (encP c t v)), 14 + (p + costA c t v + 7) / 8, false, b.2.2.2.1, t)
theorem cutf_lt {g : Nat → Nat} (hg : ∀ q, g q < 2) (p q : Nat) : cutf g p q < 2 := by
  unfold cutf
  split
  · exact hg q
  · decide
theorem wrF_bit (by_ : Nat → Nat) (p w N q : Nat) : ab (wrF by_ p w N) (112 + q) = cutf (ext (fb by_ p) p w N) (p + w) q := by
  unfold ab
  rw [show (112 + q) / 8 = 14 + q / 8 by omega, show (112 + q) % 8 = q % 8 by omega]
  unfold wrF
  rw [if_neg (by omega), if_neg (by omega), if_neg (by omega), show 14 + q / 8 - 14 = q / 8 by omega]
  have := num_bit (F := cutf (ext (fb by_ p) p w N) (p + w)) (cutf_lt (ext_lt (fb_lt by_ p) p w N) _) (8 * (q / 8)) 8 (q % 8) (by omega)
  rw [show 8 - 1 - q % 8 = 7 - q % 8 by omega, show 8 * (q / 8) + q % 8 = q by omega] at this
  exact this
theorem ab_congr {f g : Nat → Nat} {q : Nat} (h : f (q / 8) = g (q / 8)) : ab f q = ab g q := by unfold ab; rw [h]
theorem cs0_congr {f g : Nat → Nat} (h : ∀ i, i < 12 → f i = g i) : cs0 f = cs0 g := by
  have e1 : hst f = hst g := num_congr (fun q _ h2 => ab_congr (h _ (by omega)))
  have e2 : hvl f = hvl g := congrArg lN (num_congr (fun q _ h2 => ab_congr (h _ (by omega))))
  unfold cs0; rw [e1, e2]
theorem wrF_lt {by_ : Nat → Nat} {p w N : Nat} (h : ∀ i, i < 14 → by_ i < 256) (hc : hct by_ < 65535) (i : Nat) : wrF by_ p w N i < 256 := by
  unfold wrF
  split
  · omega
  split
  · omega
  split
  · exact h i (by omega)
  · exact num_lt (cutf_lt (ext_lt (fb_lt by_ p) p w N) _) _ 8
theorem wr_opn {by_ : Nat → Nat} {size p : Nat} {c : Cs} {l : List PtR} (h : opn by_ size p c l) (hb : ∀ i, i < 14 → by_ i < 256) (hc : hct by_ < 65535) {t : Nat} {v : Int64} (ht1 : c.1 < t) (ht : t ≤ 2000000000) :
    opn (wrF by_ p (costA c t v) (chN (encP c t v))) (14 + (p + costA c t v + 7) / 8) (p + costA c t v) (stepA c t v) (l ++ [(t, v, costA c t v, kindA (secA c t), wayA c.2.2.2 (v ^^^ c.2.2.1))]) ∧ cs0 (wrF by_ p (costA c t v) (chN (encP c t v))) = cs0 by_ := by
  obtain ⟨h1, h2, h3, h4, h5, h6⟩ := h
  have e0 : cs0 (wrF by_ p (costA c t v) (chN (encP c t v))) = cs0 by_ := cs0_congr (fun i hi => by unfold wrF; rw [if_neg (by omega), if_neg (by omega), if_pos (by omega)])
  have e1 : hct (wrF by_ p (costA c t v) (chN (encP c t v))) = hct by_ + 1 := by
    rw [hct_e (wrF_lt hb hc 12) (wrF_lt hb hc 13)]
    show (hct by_ + 1) / 256 * 256 + (hct by_ + 1) % 256 = _
    omega
  refine ⟨⟨?_, rfl, ?_, by omega, ?_, stepA_ok h6 ht⟩, e0⟩
  · rw [e0, e1, show hct by_ + 1 - 1 = (hct by_ - 1) + 1 by omega]
    refine rdN_more (f := fb by_ p) (L := p) (fb_lt _ _) h1 (Nat.le_refl _) h6 (fun q hq => ?_) ht1 ht ?_ (Nat.le_add_right _ _) (Nat.le_refl _)
    · rw [fb_in (L := p + costA c t v) (by omega), wrF_bit]
      unfold cutf ext
      rw [if_pos (by omega), if_pos hq]
    · have : num (fb (wrF by_ p (costA c t v) (chN (encP c t v))) (p + costA c t v)) p (costA c t v) = num (ext (fb by_ p) p (costA c t v) (chN (encP c t v))) p (costA c t v) := num_congr (fun q g1 g2 => by
        rw [fb_in (by omega), wrF_bit]
        unfold cutf
        rw [if_pos (by omega)])
      show num _ p (costA c t v) = _
      rw [this, num_ext]
      exact Nat.mod_eq_of_lt (chN_lt (encP_ok h6 t v))
  · refine num_zero _ (fun j hj => ?_)
    rw [Nat.add_assoc, wrF_bit]
    unfold cutf
    rw [if_neg (by omega)]
  · have : hst (wrF by_ p (costA c t v) (chN (encP c t v))) = hst by_ := congrArg Prod.fst e0
    rw [this]; exact h5
/-- sealed -/
def clB (b : Bk) : Bk := (fun i => if i = b.2.1 then chk b.1 b.2.1 else b.1 i, b.2.1 + 1, true, b.2.2.2.1, b.2.2.2.2)
theorem cl_rs {b : Bk} {p : Nat} {c : Cs} {l : List PtR} (h : opn b.1 b.2.1 p c l) (hf : hst b.1 = b.2.2.2.1) (hl : c.1 = b.2.2.2.2) : rsB (clB b) = .inr (p, c, l) := by
  have hrd := opn_rd h
  obtain ⟨h1, h2, h3, h4, h5, h6⟩ := h
  have hB : ∀ i, i < b.2.1 → (clB b).1 i = b.1 i := fun i hi => if_neg (by omega)
  have e0 : cs0 (clB b).1 = cs0 b.1 := cs0_congr (fun i hi => hB i (by omega))
  have e1 : hct (clB b).1 = hct b.1 := num_congr (fun q g1 g2 => ab_congr (hB _ (by omega)))
  have e2 : hst (clB b).1 = hst b.1 := congrArg Prod.fst e0
  have e3 : ∀ q, q < 8 * (b.2.1 - 14) → fb b.1 (8 * (b.2.1 - 14)) q = fb (clB b).1 (8 * (b.2.1 - 14)) q := fun q hq => by
    rw [fb_in hq, fb_in hq]
    exact ab_congr (hB _ (by omega)).symm
  unfold rsB
  rw [if_pos (show (clB b).2.2.1 = true from rfl)]
  show exK (clB b).1 (b.2.1 + 1) b.2.2.2.1 b.2.2.2.2 = _
  have eS : exS (clB b).1 (b.2.1 + 1) = .inr (p, c, l) := by
    unfold exS
    rw [if_neg, e1, e2, if_neg (by omega), if_neg (by omega), e0, show b.2.1 + 1 - 15 = b.2.1 - 14 by omega, rdN_mono (Nat.le_refl _) e3 _ hrd]
    · dsimp only
      rw [if_neg]
      have : num (fb (clB b).1 (8 * (b.2.1 - 14))) p (8 * (b.2.1 - 14) - p) = num (ab b.1) (112 + p) (8 * (b.2.1 - 14) - p) := by
        rw [num_fb (L := 8 * (b.2.1 - 14)) (by omega)]
        exact num_congr (fun q g1 g2 => (e3 q (by omega)).symm)
      rw [this]
      omega
    · rw [Nat.add_sub_cancel]
      have : chk (clB b).1 b.2.1 = chk b.1 b.2.1 := chk_congr hB
      rw [this]
      have : (clB b).1 b.2.1 = chk b.1 b.2.1 := if_pos rfl
      omega
  unfold exK
  rw [eS]
  dsimp only
  rw [if_neg]
  rw [e2]
  omega
theorem cl_ok {b : Bk} (h : bkOk b) (ho : b.2.2.1 = false) : bkOk (clB b) := by
  obtain ⟨h1, h2, h3, -, h5, h6, h7⟩ := h
  obtain ⟨h8, -⟩ := h5 ho
  refine ⟨fun i hi => ?_, ?_, ?_, fun _ => ?_, fun z => absurd z (by simp [clB]), h6, h7⟩
  · show (if i = b.2.1 then chk b.1 b.2.1 else b.1 i) < 256
    have hi : i < b.2.1 + 1 := hi
    split
    · exact Nat.lt_trans (chk_lt _ _) (by decide)
    · exact h1 i (by omega)
  · show 14 ≤ b.2.1 + 1; omega
  · show b.2.1 + 1 ≤ 200; omega
  · show 15 ≤ b.2.1 + 1; omega
