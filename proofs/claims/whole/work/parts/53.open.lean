/-! ===== the reader opens a block; the sum of bytes ===== -/
theorem toI_lN (n : Nat) : (lN n).toInt32 = nI n := l2i_lN n
theorem open29 {K : Kn} {m : Mem} {r b β n : Nat} {by_ : Nat → Nat} (h7 : gR m r 7 = some β) (hK : K β = some (.inr (0, 200))) (h0 : gR m r 0 = some (r + 1)) (hKr : K (r + 1) = some (.inl 1)) (hβ : β ≠ r) (hβ1 : β ≠ r + 1) (hn : 14 ≤ n) (hn2 : n ≤ 200) (hy : byR m β by_ n) :
    ∃ m', f_X6_open_29 K r b m r (nI n) = some m' ∧ tkR K m' r β by_ 112 (112 + 8 * (n - 14)) ∧ gR m' r 0 = some (r + 1) ∧ coR m' (r + 1) (cs0 by_) ∧ gI m' r 10 = 0 ∧ gI m' r 1 = nI (hst by_) ∧ gI m' r 2 = nI (hct by_) ∧ eqOn (offr r) m m' ∧ szm m' = szm m ∧ (∀ k, 3 ≤ k → k ≤ 6 → gI m' r k = gI m r k) := by
  unfold f_X6_open_29
  simp only [bd_e]
  rw [show nI n * (8 : Int32) = nI (n * 8) from pk_mul n 8, show n * 8 = 112 + 8 * (n - 14) by omega]
  have T3 : tkR K (sI (sI (sI m r 9 (nI (112 + 8 * (n - 14)))) r 8 0) r 10 0) r β by_ 0 (112 + 8 * (n - 14)) := by
    refine ⟨h7, hK, hβ, ?_, ?_, by omega, by omega, ?_⟩
    · rw [gI_sI_n (Or.inr (by decide)), gI_sI_s]; rfl
    · rw [gI_sI_n (Or.inr (by decide)), gI_sI_n (Or.inr (by decide)), gI_sI_s]
    · rw [show (112 + 8 * (n - 14) + 7) / 8 = n by omega]
      exact ((hy.sI hβ).sI hβ).sI hβ
  have E0 : eqOn (offr r) m (sI (sI (sI m r 9 (nI (112 + 8 * (n - 14)))) r 8 0) r 10 0) := ((eqOn_sI (fun z => z.1 rfl)).trans (eqOn_sI (fun z => z.1 rfl))).trans (eqOn_sI (fun z => z.1 rfl))
  have T10 : gI (sI (sI (sI m r 9 (nI (112 + 8 * (n - 14)))) r 8 0) r 10 0) r 10 = 0 := gI_sI_s
  have Tk : ∀ k, 3 ≤ k → k ≤ 6 → gI (sI (sI (sI m r 9 (nI (112 + 8 * (n - 14)))) r 8 0) r 10 0) r k = gI m r k := fun k h1 h2 => by
    rw [gI_sI_n (Or.inr (by omega)), gI_sI_n (Or.inr (by omega)), gI_sI_n (Or.inr (by omega))]
  have TR : gR (sI (sI (sI m r 9 (nI (112 + 8 * (n - 14)))) r 8 0) r 10 0) r 0 = some (r + 1) := h0
  have TS : szm (sI (sI (sI m r 9 (nI (112 + 8 * (n - 14)))) r 8 0) r 10 0) = szm m := rfl
  generalize sI (sI (sI m r 9 (nI (112 + 8 * (n - 14)))) r 8 0) r 10 0 = m3 at T3 E0 T10 Tk TR TS ⊢
  rw [show (32 : Int32) = nI 32 from rfl, take_ok T3 (by omega) (by omega), bind_e]
  dsimp only
  rw [toI_lN, Nat.zero_add]
  have T4 := (T3.at (p := 32) (by omega)).put (k := 1) (v := nI (num (ab by_) 0 32)) (by decide)
  rw [show (64 : Int32) = nI 64 from rfl, take_ok T4 (by omega) (by omega), bind_e]
  dsimp only
  have T5 := T4.at (p := 96) (by omega)
  rw [show (16 : Int32) = nI 16 from rfl, take_ok T5 (by omega) (by omega), bind_e]
  dsimp only
  rw [toI_lN]
  have T6 := (T5.at (p := 112) (by omega)).put (k := 2) (v := nI (num (ab by_) 96 16)) (by decide)
  rw [ldO_n (b := r + 1) (by exact TR) hKr, bind_e]
  have g1 : gI (sI (sI (sI (sI (sI m3 r 8 (nI 32)) r 1 (nI (num (ab by_) 0 32))) r 8 (nI (32 + 64))) r 8 (nI (96 + 16))) r 2 (nI (num (ab by_) 96 16))) r 1 = nI (hst by_) := by
    simp [gI_sIa, hst]
  rw [g1]
  obtain ⟨m', b1, b2, b3, b4⟩ := begin_ok (K := K) (m := sI (sI (sI (sI (sI m3 r 8 (nI 32)) r 1 (nI (num (ab by_) 0 32))) r 8 (nI (32 + 64))) r 8 (nI (96 + 16))) r 2 (nI (num (ab by_) 96 16))) (c := r + 1) (t := hst by_) (v := lN (num (ab by_) 32 64))
  rw [b1, bind_e]
  have hr : offc (r + 1) r := show r ≠ r + 1 by omega
  refine ⟨m', rfl, T6.on b3 hr hβ1, (b3.R hr).trans TR, b2, ?_, (b3.I hr).trans g1, ?_, ?_, ?_, ?_⟩
  · rw [b3.I hr]; simp [gI_sIa, T10]
  · rw [b3.I hr]; simp [gI_sIa, hct]
  · refine E0.trans (eqOn.trans ?_ (b3.mono (fun _ z => z.2)))
    exact ((((eqOn_sI (fun z => z.1 rfl)).trans (eqOn_sI (fun z => z.1 rfl))).trans (eqOn_sI (fun z => z.1 rfl))).trans (eqOn_sI (fun z => z.1 rfl))).trans (eqOn_sI (fun z => z.1 rfl))
  · rw [b4]; exact TS
  · intro k h1 h2
    rw [b3.I hr, gI_sI_n (Or.inr (by omega)), gI_sI_n (Or.inr (by omega)), gI_sI_n (Or.inr (by omega)), gI_sI_n (Or.inr (by omega)), gI_sI_n (Or.inr (by omega))]
    exact Tk k h1 h2
/-- the reader's own shape -/
def rdS (K : Kn) (m : Mem) (r : Nat) : Prop := gR m r 0 = some (r + 1) ∧ K r = some (.inl 5) ∧ K (r + 1) = some (.inl 1)
/-- opened: the reader at the first point of a block; what is of no fault goes on -/
theorem open_ok {K : Kn} {m : Mem} {r b β size n : Nat} {by_ : Nat → Nat} {se : Bool} (hr : rdS K m r) (hb0 : gR m b 0 = some β) (hK : K β = some (.inr (0, 200))) (hbr : offr r b) (hβr : offr r β) (h1 : gI m b 1 = nI size) (h6 : gI m b 6 = if se = true then 1 else 0) (hn : size = if se = true then n + 1 else n) (hn1 : 14 ≤ n) (hn2 : n ≤ 200) (hy : byR m β by_ n) :
    ∃ m', F_X6_open K m r b = some m' ∧ tkR K m' r β by_ 112 (112 + 8 * (n - 14)) ∧ rdS K m' r ∧ coR m' (r + 1) (cs0 by_) ∧ gI m' r 10 = 0 ∧ gI m' r 1 = nI (hst by_) ∧ gI m' r 2 = nI (hct by_) ∧ eqOn (offr r) m m' ∧ szm m' = szm m ∧ (∀ k, 3 ≤ k → k ≤ 6 → gI m' r k = gI m r k) := by
  unfold F_X6_open f_X6_open
  rw [ldA_n hb0 hK, bind_e]
  simp only [bd_e]
  rw [gI_sR, gI_sR, h6, h1]
  have hβ0 : byR (sR m r 7 (some β)) β by_ n := hy
  have hsr : gR (sR m r 7 (some β)) r 0 = some (r + 1) := by rw [gR_sRa]; simpa using hr.1
  obtain ⟨m', e1, e2, e3, e4, e5, e6, e7, e8, e9, e10⟩ := open29 (K := K) (b := b) (m := sR m r 7 (some β)) (r := r) gR_sR_s hK hsr hr.2.2 hβr.1 hβr.2 hn1 hn2 hβ0
  refine ⟨m', ?_, e2, ⟨e3, hr.2⟩, e4, e5, e6, e7, (eqOn_sR (fun z => z.1 rfl)).trans e8, e9, fun k h1 h2 => (e10 k h1 h2).trans gI_sR⟩
  cases se with
  | false =>
    rw [if_pos (by decide)]
    rw [if_neg (by decide)] at hn
    rw [hn]; exact e1
  | true =>
    rw [if_neg (by decide)]
    rw [if_pos rfl] at hn
    rw [hn, nI_pred]; exact e1
/-- the sum of so many bytes -/
theorem checkL {K : Kn} {m : Mem} {b β n : Nat} {by_ : Nat → Nat} (hb0 : gR m b 0 = some β) (hK : K β = some (.inr (0, 200))) (hn : n ≤ 200) (hy : byR m β by_ n) : ∀ (f i : Nat), i ≤ n → n - i < f → f_X0_checkOf_5 K m b (nI n) f (nI (chk by_ i)) (nI i) = some (nI (chk by_ n))
  | 0, _, _, h => absurd h (Nat.not_lt_zero _)
  | f + 1, i, hi, hf => by
    show f_X0_checkOf_5B K m b (nI n) (f_X0_checkOf_5 K m b (nI n) f) (nI (chk by_ i)) (nI i) = _
    unfold f_X0_checkOf_5B
    by_cases c : n ≤ i
    · rw [if_pos ((nI_leI (by omega) (by omega)).mpr c), show i = n by omega]
    · rw [if_neg (fun z => c ((nI_leI (by omega) (by omega)).mp z)), ldA_n hb0 hK, bind_e, alI_n (lenK_of hK) (by omega) (by omega), bind_e]
      simp only [bd_e]
      obtain ⟨y1, y2⟩ := hy i (by omega)
      have h1 := chk_lt by_ i
      rw [y1, show (31 : Int32) = nI 31 from rfl, show (251 : Int32) = nI 251 from rfl, show (1 : Int32) = nI 1 from rfl, pk_mul, nI_add, pk_rem (by omega) (by omega) (by omega), nI_add]
      exact checkL hb0 hK hn hy f (i + 1) (by omega) (by omega)
theorem checkOf_ok {K : Kn} {m : Mem} {b β n : Nat} {by_ : Nat → Nat} (hb0 : gR m b 0 = some β) (hK : K β = some (.inr (0, 200))) (hn : n ≤ 200) (hy : byR m β by_ n) : F_X0_checkOf K m b (nI n) = some (nI (chk by_ n)) :=
  checkL hb0 hK hn hy FU 0 (by omega) (by rw [FU_e]; omega)
