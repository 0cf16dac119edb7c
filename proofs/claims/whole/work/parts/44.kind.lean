/-! ===== the reader: class, second ===== -/
theorem num_shift (g : Nat → Nat) (k p : Nat) : ∀ w, num (fun q => g (k + q)) p w = num g (k + p) w
  | 0 => rfl
  | w + 1 => by rw [num, num, num_shift g k p w, Nat.add_assoc]
theorem num_fb {by_ : Nat → Nat} {L p w : Nat} (h : p + w ≤ L) : num (ab by_) (112 + p) w = num (fb by_ L) p w := by
  rw [← num_shift]
  apply num_congr
  intro q h1 h2
  unfold fb
  rw [if_pos (by omega)]
theorem fb_in {by_ : Nat → Nat} {L p : Nat} (h : p < L) : fb by_ L p = ab by_ (112 + p) := by unfold fb; rw [if_pos h]
theorem fb_out {by_ : Nat → Nat} {L p : Nat} (h : L ≤ p) : fb by_ L p = 0 := by unfold fb; rw [if_neg (by omega)]
theorem num1 (by_ : Nat → Nat) (q : Nat) : num (ab by_) q 1 = ab by_ q := num_one _ _
theorem lgN {a b : Nat} (ha : a < 2147483648) (hb : b < 2147483648) : lg_cmp (lN a) (lN b) = 0 ↔ a = b := by rw [lg_cmp_eq, lN_eq ha hb]
/-- frames of a reader's step: all but the reader and its coder stays; of the reader what is below the hand -/
def kpR (r : Nat) (m m' : Mem) : Prop := eqOn (offr r) m m' ∧ szm m' = szm m ∧ (∀ k, k < 8 → gI m' r k = gI m r k) ∧ (∀ k, gR m' r k = gR m r k)
theorem kpR.refl (r : Nat) (m : Mem) : kpR r m m := ⟨eqOn.refl m, rfl, fun _ _ => rfl, fun _ => rfl⟩
theorem kpR.trans {r : Nat} {m m1 m2 : Mem} (h : kpR r m m1) (h' : kpR r m1 m2) : kpR r m m2 := ⟨h.1.trans h'.1, h'.2.1.trans h.2.1, fun k hk => (h'.2.2.1 k hk).trans (h.2.2.1 k hk), fun k => (h'.2.2.2 k).trans (h.2.2.2 k)⟩
theorem kpR_sI {r : Nat} {m : Mem} {k : Nat} {v : Int32} (hk : 8 ≤ k) : kpR r m (sI m r k v) := ⟨eqOn_sI (fun z => z.1 rfl), rfl, fun j hj => gI_sI_n (Or.inr (by omega)), fun _ => rfl⟩
theorem kpR_sJ {r : Nat} {m : Mem} {k : Nat} {v : Int64} : kpR r m (sJ m r k v) := ⟨eqOn_sJ (fun z => z.1 rfl), rfl, fun _ _ => rfl, fun _ => rfl⟩
theorem en_tk {K : Kn} {m : Mem} {r β : Nat} {by_ : Nat → Nat} {lim : Nat} (h : enR K m r β by_ lim) {w : Nat} (hw : w ≤ 64) : ∃ v m', F_X6_takeBits K m r (nI w) = some (lN v, m') ∧ v < 2 ^ w ∧ enR K m' r β by_ lim ∧ kpR r m m' ∧ (∀ k, 11 ≤ k → gI m' r k = gI m r k) ∧ (∀ k, gI m' (r + 1) k = gI m (r + 1) k) := by
  obtain ⟨⟨pos, h1⟩, h2, h3, ⟨s, h4, h5⟩, h6⟩ := h
  by_cases hp : pos + w ≤ lim
  · exact ⟨_, _, take_ok h1 hw hp, num_lt (ab_lt by_) _ _, ⟨⟨_, h1.at hp⟩, h2, h3, ⟨s, h4.sI (by omega), h5⟩, by rw [gI_sI_n (Or.inr (by decide))]; exact h6⟩, kpR_sI (by omega), fun k hk => gI_sI_n (Or.inr (by omega)), fun k => gI_sI_n (Or.inl (by omega))⟩
  · exact ⟨0, _, take_no h1 hw (by omega), Nat.two_pow_pos _, ⟨⟨pos, h1.put (by decide)⟩, h2, h3, ⟨s, h4.sI (by omega), h5⟩, gI_sI_s⟩, kpR_sI (by omega), fun k hk => gI_sI_n (Or.inr (by omega)), fun k => gI_sI_n (Or.inl (by omega))⟩
theorem en_kindL {K : Kn} {r β : Nat} {by_ : Nat → Nat} {lim : Nat} : ∀ (n : Nat) (m : Mem) (x : Nat), x ≤ 4 → 4 - x < n → enR K m r β by_ lim → ∃ k m', f_X6_takeKind_2 K r n m (nI x) = some (nI k, m') ∧ k ≤ 4 ∧ enR K m' r β by_ lim ∧ kpR r m m'
  | 0, _, _, _, h, _ => absurd h (Nat.not_lt_zero _)
  | n + 1, m, x, hx, hn, he => by
    show ∃ k m', f_X6_takeKind_2B K r (f_X6_takeKind_2 K r n) m (nI x) = _ ∧ _
    unfold f_X6_takeKind_2B f_X6_takeKind_23
    rw [show (4 : Int32) = nI 4 from rfl]
    by_cases c : 4 ≤ x
    · rw [if_pos ((nI_leI (by omega) (by omega)).mpr c)]
      exact ⟨x, m, rfl, hx, he, kpR.refl _ _⟩
    · rw [if_neg (fun z => c ((nI_leI (by omega) (by omega)).mp z))]
      obtain ⟨v, m', e1, e2, e3, e4, -⟩ := en_tk he (w := 1) (by omega)
      rw [show (1 : Int32) = nI 1 from rfl, e1, bind_e]
      dsimp only
      rw [show (1 : Int64) = lN 1 from rfl]
      by_cases c1 : v = 1
      · rw [if_pos ((lgN (by omega) (by omega)).mpr c1)]
        simp only [bd_e]
        rw [nI_add]
        obtain ⟨k, m2, g1, g2, g3, g4⟩ := en_kindL n m' (x + 1) (by omega) (by omega) e3
        exact ⟨k, m2, g1, g2, g3, e4.trans g4⟩
      · rw [if_neg (fun z => c1 ((lgN (by omega) (by omega)).mp z))]
        exact ⟨x, m', rfl, hx, e3, e4⟩
/-- ones from here on, up to four in all -/
def onesR (f : Nat → Nat) (p : Nat) : Nat → Nat
  | 0 => 0
  | n + 1 => if f p = 1 then onesR f (p + 1) n + 1 else 0
theorem onesR_le (f : Nat → Nat) : ∀ (n p : Nat), onesR f p n ≤ n
  | 0, _ => Nat.le_refl _
  | n + 1, p => by
    unfold onesR
    split
    · have := onesR_le f n (p + 1); omega
    · omega
theorem kindR_ones {f : Nat → Nat} (hf : ∀ q, f q < 2) (p : Nat) : kindR f p = onesR f p 4 := by
  have h0 := hf p
  have h1 := hf (p + 1)
  have h2 := hf (p + 2)
  have h3 := hf (p + 3)
  unfold kindR
  simp only [onesR, Nat.add_assoc, Nat.reduceAdd]
  repeat (first | omega | split)
/-- bits that so many ones, of at most n, take -/
def onesW (k n : Nat) : Nat := if k < n then k + 1 else n
theorem kindL {K : Kn} {r β : Nat} {by_ : Nat → Nat} {L : Nat} {s : Cs} : ∀ (n : Nat) (m : Mem) (x p : Nat), x ≤ 4 → 4 - x < n → reR K m r β by_ (112 + p) (112 + L) s →
    (p + onesW (onesR (fb by_ L) p (4 - x)) (4 - x) ≤ L → f_X6_takeKind_2 K r n m (nI x) = some (nI (x + onesR (fb by_ L) p (4 - x)), sI m r 8 (nI (112 + (p + onesW (onesR (fb by_ L) p (4 - x)) (4 - x)))))) ∧
    (L < p + onesW (onesR (fb by_ L) p (4 - x)) (4 - x) → ∃ k m', f_X6_takeKind_2 K r n m (nI x) = some (nI k, m') ∧ k ≤ 4 ∧ enR K m' r β by_ (112 + L) ∧ kpR r m m')
  | 0, _, _, _, _, h, _ => absurd h (Nat.not_lt_zero _)
  | n + 1, m, x, p, hx, hn, hR => by
    have hpos : 112 + p ≤ 112 + L := hR.1.2.2.2.2.2.2.1
    have hL16 : 112 + L ≤ 1600 := hR.1.2.2.2.2.2.1
    have unf : f_X6_takeKind_2 K r (n + 1) m (nI x) = f_X6_takeKind_2B K r (f_X6_takeKind_2 K r n) m (nI x) := rfl
    rw [unf]
    unfold f_X6_takeKind_2B f_X6_takeKind_23
    rw [show (4 : Int32) = nI 4 from rfl]
    by_cases c : 4 ≤ x
    · rw [if_pos ((nI_leI (by omega) (by omega)).mpr c), show 4 - x = 0 by omega]
      simp only [onesR, onesW, Nat.add_zero, Nat.lt_irrefl, if_false]
      refine ⟨fun _ => ?_, fun z => by omega⟩
      rw [sI_id hR.1.2.2.2.1]
    rw [if_neg (fun z => c ((nI_leI (by omega) (by omega)).mp z))]
    obtain ⟨y, hy⟩ : ∃ y, 4 - x = y + 1 := ⟨3 - x, by omega⟩
    have hy4 : 4 - (x + 1) = y := by clear hR; omega
    rw [hy]
    by_cases hp : p + 1 ≤ L
    · obtain ⟨e1, hR1⟩ := re_take hR (w := 1) (by omega) (by omega)
      rw [show (1 : Int32) = nI 1 from rfl, e1, bind_e]
      dsimp only
      rw [num1, ← fb_in (L := L) (show p < L by omega), show (1 : Int64) = lN 1 from rfl]
      have hb := fb_lt by_ L p
      by_cases c1 : fb by_ L p = 1
      · rw [if_pos ((lgN (by omega) (by omega)).mpr c1)]
        simp only [bd_e]
        rw [nI_add]
        have ih := kindL n (sI m r 8 (nI (112 + p + 1))) (x + 1) (p + 1) (by omega) (by omega) hR1
        rw [hy4] at ih
        have eo : onesR (fb by_ L) p (y + 1) = onesR (fb by_ L) (p + 1) y + 1 := by rw [onesR, if_pos c1]
        have ew : onesW (onesR (fb by_ L) p (y + 1)) (y + 1) = onesW (onesR (fb by_ L) (p + 1) y) y + 1 := by rw [eo]; unfold onesW; split <;> split <;> omega
        rw [ew, eo]
        refine ⟨fun z => ?_, fun z => ?_⟩
        · rw [ih.1 (by omega), sI_sI]
          rw [show x + 1 + onesR (fb by_ L) (p + 1) y = x + (onesR (fb by_ L) (p + 1) y + 1) by omega, show p + 1 + onesW (onesR (fb by_ L) (p + 1) y) y = p + (onesW (onesR (fb by_ L) (p + 1) y) y + 1) by omega]
        · obtain ⟨k, m', g1, g2, g3, g4⟩ := ih.2 (by omega)
          exact ⟨k, m', g1, g2, g3, (kpR_sI (by omega)).trans g4⟩
      · rw [if_neg (fun z => c1 ((lgN (by omega) (by omega)).mp z))]
        have eo : onesR (fb by_ L) p (y + 1) = 0 := by rw [onesR, if_neg c1]
        rw [eo]
        simp only [onesW, Nat.zero_lt_succ, if_true, Nat.add_zero, Nat.zero_add]
        exact ⟨fun _ => rfl, fun z => by omega⟩
    · obtain ⟨e1, hE⟩ := re_end hR (w := 1) (by omega) (by omega)
      rw [show (1 : Int32) = nI 1 from rfl, e1, bind_e]
      dsimp only
      rw [show (1 : Int64) = lN 1 from rfl, show (0 : Int64) = lN 0 from rfl, if_neg (fun z => absurd ((lgN (by omega) (by omega)).mp z) (by omega))]
      have eo : onesR (fb by_ L) p (y + 1) = 0 := by rw [onesR, if_neg (by rw [fb_out (by omega)]; omega)]
      rw [eo]
      simp only [onesW, Nat.zero_lt_succ, if_true, Nat.zero_add]
      exact ⟨fun z => by omega, fun _ => ⟨x, _, rfl, hx, hE, kpR_sI (by omega)⟩⟩
theorem onesW_k {k : Nat} (h : k ≤ 4) : onesW k 4 = kwid k := by
  rcases (show k = 0 ∨ k = 1 ∨ k = 2 ∨ k = 3 ∨ k = 4 by omega) with rfl | rfl | rfl | rfl | rfl <;> rfl
theorem takeKind_ok {K : Kn} {m : Mem} {r β : Nat} {by_ : Nat → Nat} {p L : Nat} {s : Cs} (h : reR K m r β by_ (112 + p) (112 + L) s) :
    (p + kwid (kindR (fb by_ L) p) ≤ L → F_X6_takeKind K m r = some (nI (kindR (fb by_ L) p), sI m r 8 (nI (112 + (p + kwid (kindR (fb by_ L) p)))))) ∧
    (L < p + kwid (kindR (fb by_ L) p) → ∃ k m', F_X6_takeKind K m r = some (nI k, m') ∧ k ≤ 4 ∧ enR K m' r β by_ (112 + L) ∧ kpR r m m') := by
  have h1 := kindL FU m 0 p (by omega) (by rw [FU_e]; omega) h
  rw [Nat.sub_zero, ← kindR_ones (fb_lt by_ L), onesW_k (kindR_le _ _), Nat.zero_add] at h1
  exact h1
