/-! ===== the reader examines a sealed block ===== -/
def fltS (x : (Nat × Int) ⊕ (Nat × Cs × List PtR)) : Nat := match x with
  | .inl e => e.1
  | .inr _ => 0
def exP (m' : Mem) (r : Nat) (by_ : Nat → Nat) (x : (Nat × Int) ⊕ (Nat × Cs × List PtR)) : Prop := match x with
  | .inl e => gI m' r 4 = iZ e.2
  | .inr q => gI m' r 4 = iZ (-1) ∧ gI m' r 3 = nI q.1 ∧ gI m' r 2 = nI (hct by_) ∧ gI m' r 1 = nI (hst by_) ∧ gI m' (r + 1) 0 = nI q.2.1.1
/-- the last stamps told: 7 -/
def knB (by_ : Nat → Nat) (kn : Bool) (fst lst : Nat) (x : (Nat × Int) ⊕ (Nat × Cs × List PtR)) : (Nat × Int) ⊕ (Nat × Cs × List PtR) := match x with
  | .inl e => .inl e
  | .inr r => if kn = true ∧ (hst by_ ≠ fst ∨ r.2.1.1 ≠ lst) then .inl (7, 0) else .inr r
theorem knB_t (by_ : Nat → Nat) (size fst lst : Nat) : knB by_ true fst lst (exS by_ size) = exK by_ size fst lst := by
  unfold knB exK
  cases exS by_ size with
  | inl e => rfl
  | inr r => simp
theorem knB_f (by_ : Nat → Nat) (size fst lst : Nat) : knB by_ false fst lst (exS by_ size) = exS by_ size := by
  unfold knB
  cases exS by_ size with
  | inl e => rfl
  | inr r => simp
theorem rdN_inl {f : Nat → Nat} {L : Nat} {c0 : Cs} {e : Nat × Nat} {n : Nat} (h : rdN f L c0 n = .inl e) : ∀ k, rdN f L c0 (n + k) = .inl e
  | 0 => h
  | k + 1 => by
    rw [← Nat.add_assoc, rdN, rdN_inl h k]
def exRest (by_ : Nat → Nat) (L : Nat) (x : (Nat × Nat) ⊕ (Nat × Cs × List PtR)) : (Nat × Int) ⊕ (Nat × Cs × List PtR) := match x with
  | .inl e => .inl (e.1, (e.2 : Int))
  | .inr r => if 7 < L - r.1 ∨ num (fb by_ L) r.1 (L - r.1) ≠ 0 then .inl (6, (r.1 : Int)) else .inr r
theorem ex_end {K : Kn} {m : Mem} {r a β : Nat} {by_ : Nat → Nat} {p L fst lst : Nat} {c : Cs} {l : List PtR} {kn : Bool} {k73 : Mem → Int32 → Option (Int32 × Mem)} {i : Nat} (h : reR K m r β by_ (112 + p) (112 + L) c) (hra : offr r a) (h1 : gI m r 1 = nI (hst by_)) (h2 : gI m r 2 = nI (hct by_)) (hc : hct by_ ≤ i) (hi : i < 65537) (hst2 : hst by_ ≤ 2000000000) (h4 : kn = true → gI m a 4 = nI fst) (h5 : kn = true → gI m a 5 = nI lst) (hf : fst < 2147483648) (hl : lst < 2147483648) :
    ∃ m', f_X6_examine_73B K r a (if kn = true then 1 else 0) k73 m (nI i) = some (nI (fltS (knB by_ kn fst lst (exRest by_ L (.inr (p, c, l))))), m') ∧ gR m' r 0 = some (r + 1) ∧ eqOn (offr r) m m' ∧ szm m' = szm m ∧ exP m' r by_ (knB by_ kn fst lst (exRest by_ L (.inr (p, c, l)))) := by
  obtain ⟨t1, t2, t3, t4, t5, t6, t7⟩ := id h
  obtain ⟨u1, u2, u3, u4, u5, u6, u7, u8⟩ := id t1
  unfold f_X6_examine_73B
  have hcl : hct by_ < 65536 := num_lt (ab_lt by_) 96 16
  rw [h2, if_pos ((nI_leI (by omega) (by omega)).mpr hc)]
  simp only [bd_e]
  rw [u4, show (112 : Int32) = nI 112 from rfl, pk_sub (by omega), Nat.add_sub_cancel_left, gI_sI_s]
  have g8 : gI (sI (sI m r 3 (nI p)) r 4 (nI p)) r 8 = nI (112 + p) := by simp [gI_sIa, u4]
  have g9 : gI (sI (sI m r 3 (nI p)) r 4 (nI p)) r 9 = nI (112 + L) := by simp [gI_sIa, u5]
  have g1 : gI (sI (sI m r 3 (nI p)) r 4 (nI p)) r 1 = nI (hst by_) := by simp [gI_sIa, h1]
  have g2 : gI (sI (sI m r 3 (nI p)) r 4 (nI p)) r 2 = nI (hct by_) := by simp [gI_sIa, h2]
  have g3 : gI (sI (sI m r 3 (nI p)) r 4 (nI p)) r 3 = nI p := by simp [gI_sIa]
  have g4 : gI (sI (sI m r 3 (nI p)) r 4 (nI p)) r 4 = nI p := by simp [gI_sIa]
  have E3 : eqOn (offr r) m (sI (sI m r 3 (nI p)) r 4 (nI p)) := (eqOn_sI (fun z => z.1 rfl)).trans (eqOn_sI (fun z => z.1 rfl))
  have T3 : tkR K (sI (sI m r 3 (nI p)) r 4 (nI p)) r β by_ (112 + p) (112 + L) := (t1.put (by decide)).put (by decide)
  have C3 : coR (sI (sI m r 3 (nI p)) r 4 (nI p)) (r + 1) c := (t5.sI (by omega)).sI (by omega)
  have R3 : gR (sI (sI m r 3 (nI p)) r 4 (nI p)) r 0 = some (r + 1) := t2
  have S3 : szm (sI (sI m r 3 (nI p)) r 4 (nI p)) = szm m := rfl
  generalize sI (sI m r 3 (nI p)) r 4 (nI p) = m3 at g8 g9 g1 g2 g3 g4 E3 T3 C3 R3 S3 ⊢
  rw [g8, g9, pk_sub (by omega), show 112 + L - (112 + p) = L - p by omega, show (7 : Int32) = nI 7 from rfl]
  have hnum : num (fb by_ L) p (L - p) < 2 ^ (L - p) := num_lt (fb_lt by_ L) _ _
  unfold exRest
  dsimp only
  by_cases c7 : 7 < L - p
  · rw [if_pos ((nI_ltI (by omega) (by omega)).mpr c7), if_pos (Or.inl c7)]
    exact ⟨m3, rfl, R3, E3, S3, by show gI m3 r 4 = iZ (p : Int); rw [iZ_nat]; exact g4⟩
  · rw [if_neg (fun z => c7 ((nI_ltI (by omega) (by omega)).mp z)), take_ok T3 (by omega) (by omega), bind_e]
    dsimp only
    rw [num_fb (L := L) (by omega)]
    have hnb : num (fb by_ L) p (L - p) < 128 := Nat.lt_of_lt_of_le hnum (Nat.pow_le_pow_right (n := 2) (by omega) (show L - p ≤ 7 by omega))
    have g1' : gI (sI m3 r 8 (nI (112 + p + (L - p)))) r 1 = nI (hst by_) := by rw [gI_sI_n (Or.inr (by decide))]; exact g1
    have g2' : gI (sI m3 r 8 (nI (112 + p + (L - p)))) r 2 = nI (hct by_) := by rw [gI_sI_n (Or.inr (by decide))]; exact g2
    have g3' : gI (sI m3 r 8 (nI (112 + p + (L - p)))) r 3 = nI p := by rw [gI_sI_n (Or.inr (by decide))]; exact g3
    have g4' : gI (sI m3 r 8 (nI (112 + p + (L - p)))) r 4 = nI p := by rw [gI_sI_n (Or.inr (by decide))]; exact g4
    have E4 : eqOn (offr r) m (sI m3 r 8 (nI (112 + p + (L - p)))) := E3.trans (eqOn_sI (fun z => z.1 rfl))
    have C4 : coR (sI m3 r 8 (nI (112 + p + (L - p)))) (r + 1) c := C3.sI (by omega)
    have R4 : gR (sI m3 r 8 (nI (112 + p + (L - p)))) r 0 = some (r + 1) := R3
    have S4 : szm (sI m3 r 8 (nI (112 + p + (L - p)))) = szm m := S3
    generalize sI m3 r 8 (nI (112 + p + (L - p))) = m4 at g1' g2' g3' g4' E4 C4 R4 S4 ⊢
    by_cases cz : num (fb by_ L) p (L - p) = 0
    · rw [if_pos ((lgN0 (by omega)).mpr cz), if_neg (show ¬ (7 < L - p ∨ num (fb by_ L) p (L - p) ≠ 0) by omega)]
      have okk : ∃ m', f_X6_examine_197 K r a (if kn = true then 1 else 0) m4 = some (nI 0, m') ∧ gR m' r 0 = some (r + 1) ∧ eqOn (offr r) m m' ∧ szm m' = szm m ∧ exP m' r by_ (.inr (p, c, l)) := by
        unfold f_X6_examine_197
        refine ⟨_, rfl, R4, E4.trans (eqOn_sI (fun z => z.1 rfl)), S4, ?_⟩
        refine ⟨gI_sI_s, by rw [gI_sI_n (Or.inr (by decide))]; exact g3', by rw [gI_sI_n (Or.inr (by decide))]; exact g2', by rw [gI_sI_n (Or.inr (by decide))]; exact g1', ?_⟩
        rw [gI_sI_n (Or.inl (by omega))]; exact C4.1
      have bad : ∃ m', f_X6_examine_189 K r a (if kn = true then 1 else 0) m4 = some (nI 7, m') ∧ gR m' r 0 = some (r + 1) ∧ eqOn (offr r) m m' ∧ szm m' = szm m ∧ exP m' r by_ (.inl (7, 0)) := by
        unfold f_X6_examine_189
        exact ⟨_, rfl, R4, E4.trans (eqOn_sI (fun z => z.1 rfl)), S4, gI_sI_s⟩
      cases kn with
      | false =>
        rw [show knB by_ false fst lst (.inr (p, c, l)) = .inr (p, c, l) by simp [knB]]
        rw [if_neg (show ¬ false = true by decide), if_pos rfl]
        rw [if_neg (show ¬ false = true by decide)] at okk
        exact okk
      | true =>
        rw [if_pos rfl] at okk bad ⊢
        rw [if_neg (show ¬ (1 : Int32) = 0 by decide), g1', E4.I hra, h4 rfl, ldO_n R4 t3, bind_e, C4.1, E4.I hra, h5 rfl]
        have b1 := t6.1
        by_cases e1 : hst by_ = fst
        · rw [if_pos ((nI_eq (by omega) (by omega)).mpr e1)]
          by_cases e2 : c.1 = lst
          · rw [show knB by_ true fst lst (.inr (p, c, l)) = .inr (p, c, l) by simp [knB, e1, e2], if_pos ((nI_eq (by omega) (by omega)).mpr e2)]; exact okk
          · rw [show knB by_ true fst lst (.inr (p, c, l)) = .inl (7, 0) by simp [knB, e2], if_neg (fun z => e2 ((nI_eq (by omega) (by omega)).mp z))]; exact bad
        · rw [show knB by_ true fst lst (.inr (p, c, l)) = .inl (7, 0) by simp [knB, e1], if_neg (fun z => e1 ((nI_eq (by omega) (by omega)).mp z))]; exact bad
    · rw [if_neg (fun z => cz ((lgN0 (by omega)).mp z)), if_pos (Or.inr cz)]
      exact ⟨m4, rfl, R4, E4, S4, by show gI m4 r 4 = iZ (p : Int); rw [iZ_nat]; exact g4'⟩
theorem rdP_flt (f : Nat → Nat) (L : Nat) (c : Cs) (p : Nat) : (rdP f L c p).1 < 5 := by
  unfold rdP
  dsimp only
  split
  · show 2 < 5; decide
  split
  · show 3 < 5; decide
  split
  · show 4 < 5; decide
  · show 0 < 5; decide
theorem isStamp_n {n : Nat} (h : n < 4294967296) : F_X8_isStamp (nI n) = some (if n ≤ 2000000000 then 1 else 0) := by
  unfold F_X8_isStamp f_X8_isStamp f_X8_isStamp_15
  rw [show (2000000000 : Int32) = nI 2000000000 from rfl]
  by_cases c5 : n < 2147483648
  · rw [if_neg (nI_pos c5)]
    by_cases c4 : 2000000000 < n
    · rw [if_pos ((nI_ltI (by omega) c5).mpr c4), if_neg (by omega)]
    · rw [if_neg (fun z => c4 ((nI_ltI (by omega) c5).mp z)), if_pos (by omega)]
  · rw [if_pos, if_neg (by omega)]
    rw [fa_lt, nI_neg (by omega) h]
    show (_ : Int) < 0
    omega
theorem ex_loop {K : Kn} {r a β : Nat} {by_ : Nat → Nat} {L fst lst : Nat} {kn : Bool} (hra : offr r a) (hst2 : hst by_ ≤ 2000000000) (hf : fst < 2147483648) (hl : lst < 2147483648) : ∀ (f : Nat) (m : Mem) (i p : Nat) (c : Cs) (l : List PtR), 1 ≤ i → i ≤ hct by_ → hct by_ - i < f → rdN (fb by_ L) L (cs0 by_) (i - 1) = .inr (p, c, l) → reR K m r β by_ (112 + p) (112 + L) c → gI m r 1 = nI (hst by_) → gI m r 2 = nI (hct by_) → (kn = true → gI m a 4 = nI fst) → (kn = true → gI m a 5 = nI lst) →
    ∃ m', f_X6_examine_73 K r a (if kn = true then 1 else 0) f m (nI i) = some (nI (fltS (knB by_ kn fst lst (exRest by_ L (rdN (fb by_ L) L (cs0 by_) (hct by_ - 1))))), m') ∧ gR m' r 0 = some (r + 1) ∧ eqOn (offr r) m m' ∧ szm m' = szm m ∧ exP m' r by_ (knB by_ kn fst lst (exRest by_ L (rdN (fb by_ L) L (cs0 by_) (hct by_ - 1))))
  | 0, _, _, _, _, _, _, _, h, _, _, _, _, _, _ => absurd h (Nat.not_lt_zero _)
  | f + 1, m, i, p, c, l, h1i, hi, hff, hn, hR, g1, g2, g4, g5 => by
    have unf : f_X6_examine_73 K r a (if kn = true then 1 else 0) (f + 1) m (nI i) = f_X6_examine_73B K r a (if kn = true then 1 else 0) (f_X6_examine_73 K r a (if kn = true then 1 else 0) f) m (nI i) := rfl
    rw [unf]
    have hcl : hct by_ < 65536 := num_lt (ab_lt by_) 96 16
    by_cases hc : hct by_ ≤ i
    · rw [show hct by_ - 1 = i - 1 by omega, hn]
      exact ex_end hR hra g1 g2 hc (by omega) hst2 g4 g5 hf hl
    · unfold f_X6_examine_73B
      rw [g2, if_neg (fun z => hc ((nI_leI (by omega) (by omega)).mp z))]
      simp only [bd_e]
      obtain ⟨u1, u2, u3, u4, u5, u6, u7, u8⟩ := id hR.1
      rw [u4, show (112 : Int32) = nI 112 from rfl, pk_sub (by omega), Nat.add_sub_cancel_left]
      have hR2 : reR K (sI m r 4 (nI p)) r β by_ (112 + p) (112 + L) c := by
        obtain ⟨t1, t2, t3, t4, t5, t6, t7⟩ := hR
        exact ⟨t1.put (by decide), t2, t3, t4, t5.sI (by omega), t6, by rw [gI_sI_n (Or.inr (by decide))]; exact t7⟩
      obtain ⟨m', e1, e2, e3⟩ := read_ok hR2
      rw [e1, bind_e]
      dsimp only
      have hE : eqOn (offr r) m m' := (eqOn_sI (fun z => z.1 rfl)).trans e2.1
      have hflt := rdP_flt (fb by_ L) L c p
      by_cases h0 : (rdP (fb by_ L) L c p).1 = 0
      · rw [h0, if_pos (by decide), nI_1]
        obtain ⟨x1, x2⟩ := e3 h0
        have hn' : rdN (fb by_ L) L (cs0 by_) (i + 1 - 1) = .inr ((rdP (fb by_ L) L c p).2.1, (rdP (fb by_ L) L c p).2.2.1, l ++ [((rdP (fb by_ L) L c p).2.2.1.1, (rdP (fb by_ L) L c p).2.2.1.2.2.1, (rdP (fb by_ L) L c p).2.1 - p, (rdP (fb by_ L) L c p).2.2.2.1, (rdP (fb by_ L) L c p).2.2.2.2)]) := by
          rw [show i + 1 - 1 = (i - 1) + 1 by omega, rdN, hn]
          dsimp only
          rw [if_pos h0]
        obtain ⟨m2, y1, y2, y3, y4, y5⟩ := ex_loop hra hst2 hf hl f m' (i + 1) _ _ _ (by omega) (by omega) (by omega) hn' x1 (by rw [e2.2.2.1 1 (by omega), gI_sI_n (Or.inr (by decide))]; exact g1) (by rw [e2.2.2.1 2 (by omega), gI_sI_n (Or.inr (by decide))]; exact g2) (fun hk => (hE.I hra).trans (g4 hk)) (fun hk => (hE.I hra).trans (g5 hk))
        exact ⟨m2, y1, y2, hE.trans y3, y4.trans e2.2.1, y5⟩
      · rw [if_neg (fun z => by rw [show (0 : Int32) = nI 0 from rfl, nI_eq (by omega) (by omega)] at z; exact h0 z)]
        have hn' : rdN (fb by_ L) L (cs0 by_) ((i - 1) + 1) = .inl ((rdP (fb by_ L) L c p).1, p) := by
          rw [rdN, hn]
          dsimp only
          rw [if_neg h0]
        have := rdN_inl hn' (hct by_ - 1 - i)
        rw [show i - 1 + 1 + (hct by_ - 1 - i) = hct by_ - 1 by omega] at this
        rw [this]
        refine ⟨m', rfl, (e2.2.2.2 0).trans hR.2.1, hE, e2.2.1, ?_⟩
        show gI m' r 4 = iZ (p : Int)
        rw [e2.2.2.1 4 (by omega), gI_sI_s, iZ_nat]
theorem examine_ok {K : Kn} {m : Mem} {r a size : Nat} {by_ : Nat → Nat} {fst lst : Nat} {kn : Bool} (hr : rdS K m r) (h0 : gR m a 0 = some (a + 1)) (hK : K (a + 1) = some (.inr (0, 200))) (hra : offr r a) (hra1 : offr r (a + 1)) (h1 : gI m a 1 = nI size) (hs : size ≤ 200) (h6 : gI m a 6 = 1) (hy : byR m (a + 1) by_ size) (h4 : kn = true → gI m a 4 = nI fst) (h5 : kn = true → gI m a 5 = nI lst) (hf : fst < 2147483648) (hl : lst < 2147483648) :
    ∃ m', F_X6_examine K m r a (if kn = true then 1 else 0) = some (nI (fltS (knB by_ kn fst lst (exS by_ size))), m') ∧ rdS K m' r ∧ eqOn (offr r) m m' ∧ szm m' = szm m ∧ exP m' r by_ (knB by_ kn fst lst (exS by_ size)) := by
  unfold F_X6_examine f_X6_examine
  simp only [bd_e]
  have E1 : eqOn (offr r) m (sI m r 4 (-1)) := eqOn_sI (fun z => z.1 rfl)
  have R1 : gR (sI m r 4 (-1)) r 0 = some (r + 1) := hr.1
  have g4 : gI (sI m r 4 (-1)) r 4 = iZ (-1) := gI_sI_s
  have S1 : szm (sI m r 4 (-1)) = szm m := rfl
  generalize sI m r 4 (-1) = m1 at E1 R1 g4 S1 ⊢
  rw [E1.I hra, h1, show (14 : Int32) = nI 14 from rfl]
  by_cases c1 : size ≤ 14
  · rw [if_pos ((nI_leI (by omega) (by omega)).mpr c1)]
    have : exS by_ size = .inl (1, -1) := by unfold exS; rw [if_pos (Or.inl (by omega))]
    rw [this]
    exact ⟨m1, rfl, ⟨R1, hr.2⟩, E1, S1, g4⟩
  rw [if_neg (fun z => c1 ((nI_leI (by omega) (by omega)).mp z))]
  have h01 : gR m1 a 0 = some (a + 1) := (E1.R hra).trans h0
  have hy1 := hy.on E1 hra1
  rw [ldA_n h01 hK, bind_e, show nI size - (1 : Int32) = nI (size - 1) from pk_sub (b := 1) (by omega), alI_n (lenK_of hK) (by omega) (by omega), bind_e, checkOf_ok h01 hK (by omega) (fun i hi => hy1 i (by omega)), bind_e, (hy1 (size - 1) (by omega)).1]
  have hb := (hy1 (size - 1) (by omega)).2
  have hch := chk_lt by_ (size - 1)
  by_cases c2 : by_ (size - 1) = chk by_ (size - 1)
  · rw [if_pos ((nI_eq (by omega) (by omega)).mpr c2)]
    obtain ⟨m2, o1, o2, o3, o4, o5, o6, o7, o8, o9, o10⟩ := open_ok (K := K) (m := m1) (r := r) (b := a) (β := a + 1) (size := size) (n := size - 1) (by_ := by_) (se := true) ⟨R1, hr.2⟩ h01 hK hra hra1 ((E1.I hra).trans h1) ((E1.I hra).trans h6) (by rw [if_pos rfl]; omega) (by omega) (by omega) (fun i hi => hy1 i (by omega))
    rw [o1, bind_e]
    have q2 : gI (sI m2 r 4 0) r 2 = nI (hct by_) := by rw [gI_sI_n (Or.inr (by decide))]; exact o7
    have q1 : gI (sI m2 r 4 0) r 1 = nI (hst by_) := by rw [gI_sI_n (Or.inr (by decide))]; exact o6
    rw [q2, q1]
    have hcl : hct by_ < 65536 := num_lt (ab_lt by_) 96 16
    have hsl : hst by_ < 4294967296 := num_lt (ab_lt by_) 0 32
    have E2 : eqOn (offr r) m (sI m2 r 4 0) := (E1.trans o8).trans (eqOn_sI (fun z => z.1 rfl))
    have hx : ¬ (size < 15 ∨ by_ (size - 1) ≠ chk by_ (size - 1)) := by omega
    unfold exS
    rw [if_neg hx]
    by_cases c3 : hct by_ = 0
    · rw [c3, if_pos (by decide), if_pos rfl]
      exact ⟨_, rfl, o3, E2, o9.trans S1, gI_sI_s⟩
    rw [if_neg (fun z => by rw [show (0 : Int32) = nI 0 from rfl, nI_eq (by omega) (by omega)] at z; exact c3 z), if_neg c3]
    rw [isStamp_n hsl, bind_e]
    by_cases c4 : 2000000000 < hst by_
    · rw [if_pos c4, if_neg (show ¬ hst by_ ≤ 2000000000 by omega), if_pos rfl]
      exact ⟨_, rfl, o3, E2, o9.trans S1, gI_sI_s⟩
    · rw [if_neg c4, if_pos (show hst by_ ≤ 2000000000 by omega), if_neg (show ¬ (1 : Int32) = 0 by decide)]
      have hR : reR K (sI m2 r 4 0) r (a + 1) by_ (112 + 0) (112 + 8 * (size - 15)) (cs0 by_) := by
        rw [show size - 1 - 14 = size - 15 by omega] at o2
        exact ⟨o2.put (by decide), o3.1, o3.2.2, hra1.2, o4.sI (by omega), cs0_ok (by omega), by rw [gI_sI_n (Or.inr (by decide))]; exact o5⟩
      obtain ⟨m3, y1, y2, y3, y4, y5⟩ := ex_loop (kn := kn) hra (by omega) hf hl FU (sI m2 r 4 0) 1 0 (cs0 by_) _ (by omega) (by omega) (by rw [FU_e]; omega) rfl hR q1 q2 (fun hk => (E2.I hra).trans (h4 hk)) (fun hk => (E2.I hra).trans (h5 hk))
      exact ⟨m3, y1, ⟨y2, hr.2⟩, E2.trans y3, y4.trans (o9.trans S1), y5⟩
  · rw [if_neg (fun z => c2 ((nI_eq (by omega) (by omega)).mp z))]
    have : exS by_ size = .inl (1, -1) := by unfold exS; rw [if_pos (Or.inr c2)]
    rw [this]
    exact ⟨m1, rfl, ⟨R1, hr.2⟩, E1, S1, g4⟩
