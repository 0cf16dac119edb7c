/-! ===== the mender ===== -/
theorem xor_nn (x : Int32) : (0 : Int32) ≤ (x ^^^ 251) ↔ 0 ≤ x.toInt := by
  rw [fa_le]
  show 0 ≤ (x.toBitVec ^^^ 251#32).toInt ↔ 0 ≤ x.toBitVec.toInt
  have h1 := BitVec.msb_eq_toInt (x := x.toBitVec ^^^ 251#32)
  have h2 := BitVec.msb_eq_toInt (x := x.toBitVec)
  rw [BitVec.msb_xor, show (251#32).msb = false from rfl, Bool.xor_false, h2] at h1
  have := decide_eq_decide.mp h1
  omega
theorem iZ_mul (a b : Int) : iZ a * iZ b = iZ (a * b) := (Int32.ofInt_mul a b).symm
theorem floorMod_ok {z : Int} (h1 : -1000000 < z) (h2 : z < 1000000) : F_J9_floorMod_7cf53 (iZ z) 251 = some (nI (z % 251).toNat) := by
  unfold F_J9_floorMod_7cf53 f_J9_floorMod_7cf53 f_J9_floorMod_7cf53_18
  rw [gd_t (by decide)]
  simp only [bd_e]
  have e251 : (251 : Int32) = iZ 251 := rfl
  have ez : (iZ z).toInt = z := iZ_toInt (by omega) (by omega)
  have hd : iZ z / 251 = iZ (z.tdiv 251) := by
    rw [← iZ_of (iZ z / 251), Int32.toInt_div, ez, show (251 : Int32).toInt = 251 from rfl]
    have : (z.tdiv 251).bmod (2 ^ 32) = z.tdiv 251 := by
      have hb := Int.tdiv_eq_ediv (a := z) (b := 251)
      rw [show Int.sign 251 = 1 from rfl] at hb
      apply Int.bmod_eq_of_le <;> split at hb <;> omega
    rw [this]
  have hz : iZ z - iZ z / 251 * 251 = iZ (z - z.tdiv 251 * 251) := by rw [hd, e251, iZ_mul, iZ_sub]
  rw [hz]
  have hb := Int.tdiv_eq_ediv (a := z) (b := 251)
  rw [show Int.sign 251 = 1 from rfl] at hb
  by_cases c1 : 0 ≤ z
  · rw [if_pos ((xor_nn _).mpr (by rw [ez]; exact c1))]
    rw [if_pos (Or.inl c1)] at hb
    rw [← iZ_nat]
    congr 2; omega
  · rw [if_neg (fun q => c1 (by have := (xor_nn _).mp q; rw [ez] at this; exact this))]
    by_cases c2 : (251 : Int) ∣ z
    · rw [if_pos (Or.inr c2)] at hb
      have h3 := Int.emod_eq_zero_of_dvd c2
      have e0 : z - z.tdiv 251 * 251 = 0 := by omega
      rw [e0, if_pos (by decide), h3]; rfl
    · rw [if_neg (by omega)] at hb
      have hm : z % 251 ≠ 0 := fun q => c2 (Int.dvd_of_emod_eq_zero q)
      have e0 : z - z.tdiv 251 * 251 = z % 251 - 251 := by omega
      rw [e0, if_neg (fun q => by
        have := congrArg Int32.toInt q
        rw [iZ_toInt (by omega) (by omega)] at this
        have h0 : (0 : Int32).toInt = 0 := rfl
        omega), e251, iZ_add, ← iZ_nat]
      congr 2; omega
/-- what the mender keeps -/
def mnR (m : Mem) (d : Nat) (acc : List Nat) (x : Int32) : Prop := gI m d 1 = nI acc.length ∧ gI m d 2 = x ∧ ∀ n key, n < 2147483648 → x = nI n → acc[n]? = some key → gI m d 3 = nI (key / 256) ∧ gI m d 4 = nI (key % 256)
theorem mnR.on {p : Nat → Prop} {m m' : Mem} {d : Nat} {acc : List Nat} {x : Int32} (h : mnR m d acc x) (e : eqOn p m m') (hd : p d) : mnR m' d acc x :=
  ⟨(e.I hd).trans h.1, (e.I hd).trans h.2.1, fun n key h1 h2 h3 => ⟨(e.I hd).trans (h.2.2 n key h1 h2 h3).1, (e.I hd).trans (h.2.2 n key h1 h2 h3).2⟩⟩
def tryA (b : Bk) (acc : List Nat) (i v : Nat) : List Nat := if v ≤ 255 ∧ goodK b (256 * i + v) = true then acc ++ [256 * i + v] else acc
theorem tryA_len {b : Bk} {acc : List Nat} {i v : Nat} : (tryA b acc i v).length ≤ acc.length + 1 := by
  unfold tryA; split
  · rw [List.length_append]; exact Nat.le_refl _
  · omega
theorem flt_snd {b : Bk} (h : bkOk b) (hs : b.2.2.1 = true) : (nI (fltS (rsB b)) = 0) ↔ sndB b = true := by
  unfold sndB
  cases hr : rsB b with
  | inl e =>
    have := rs_inl h hr
    rw [show fltS (.inl e) = e.1 from rfl, show (0 : Int32) = nI 0 from rfl, nI_eq (by omega) (by omega)]
    simp; omega
  | inr r => exact ⟨fun _ => rfl, fun _ => rfl⟩
def offm (r d : Nat) : Nat → Prop := fun q => q ≠ d ∧ offr r q
theorem tryChange_ok {K : Kn} {m : Mem} {r d A : Nat} {b : Bk} {acc : List Nat} {x : Int32} (hr : rdS K m r) (hd : gR m d 0 = some r) (hA : bkR K m A b) (hb : bkOk b) (hs : b.2.2.1 = true) (hdA : d ≠ A ∧ d ≠ A + 1) (hdr : offr r d) (hrA : offr r A) (hrA1 : offr r (A + 1)) (hm : mnR m d acc x) (hl : acc.length < 100000) {i v : Nat} (hi : i < b.2.1) (hv : v < 512) :
    ∃ m', F_X2_tryChange K m d A (nI i) (nI v) = some m' ∧ rdS K m' r ∧ gR m' d 0 = some r ∧ mnR m' d (tryA b acc i v) x ∧ eqOn (offm r d) m m' ∧ szm m' = szm m := by
  unfold F_X2_tryChange f_X2_tryChange
  have h200 := hb.2.2.1
  obtain ⟨t1, t2, t3, t4, t5, t6, t7, t8, -⟩ := id hA
  rw [ldA_n t1 t3, bind_e, alI_n (lenK_of t3) (by omega) (by omega), bind_e, t4 i hi]
  have hbi := hb.1 i hi
  unfold tryA
  rw [show (255 : Int32) = nI 255 from rfl]
  by_cases c1 : 255 < v
  · rw [if_pos ((nI_ltI (by omega) (by omega)).mpr c1), if_neg (by omega)]
    exact ⟨m, rfl, hr, hd, hm, eqOn.refl m, rfl⟩
  rw [if_neg (fun z => c1 ((nI_ltI (by omega) (by omega)).mp z))]
  have k1 : (256 * i + v) / 256 = i := by omega
  have k2 : (256 * i + v) % 256 = v := by omega
  unfold goodK
  rw [k1, k2]
  by_cases c2 : v = b.1 i
  · rw [if_pos ((nI_eq (by omega) (by omega)).mpr c2), if_neg (by simp [c2])]
    exact ⟨m, rfl, hr, hd, hm, eqOn.refl m, rfl⟩
  rw [if_neg (fun z => c2 ((nI_eq (by omega) (by omega)).mp z)), bind_e, asI_n (lenK_of t3) (by omega) (by omega), bind_e]
  have hb' := putB_ok (i := i) hb hs (show v < 256 by omega)
  have E1 : eqOn (fun q => q ≠ A + 1) m (sI m (A + 1) i (nI v)) := eqOn_sI (fun z => z rfl)
  have R1 : rdS K (sI m (A + 1) i (nI v)) r := hr.on E1 (show r ≠ A + 1 from fun z => hrA1.1 z.symm)
  have W1 : ∀ q, gI (sI m (A + 1) i (nI v)) (A + 1) q = if q = i then nI v else gI m (A + 1) q := fun q => by
    rw [gI_sIa]
  have z1 : szm (sI m (A + 1) i (nI v)) = szm m := rfl
  have Q1 : ∀ q k, gJ (sI m (A + 1) i (nI v)) q k = gJ m q k ∧ gR (sI m (A + 1) i (nI v)) q k = gR m q k := fun _ _ => ⟨rfl, rfl⟩
  generalize sI m (A + 1) i (nI v) = m1 at E1 R1 W1 z1 Q1 ⊢
  have aA : A ≠ A + 1 := by omega
  have dA : d ≠ A + 1 := hdA.2
  rw [ldO_n ((E1.R dA).trans hd) R1.2.1, bind_e]
  have hy : byR m1 (A + 1) (putB b i v).1 b.2.1 := fun q hq => by
    refine ⟨?_, hb'.1 q hq⟩
    rw [W1]
    show _ = nI (if q = i then v else b.1 q)
    by_cases c : q = i
    · rw [if_pos c, if_pos c]
    · rw [if_neg c, if_neg c]; exact t4 q hq
  obtain ⟨m2, x1, x2, x3, x4, x5⟩ := examine_ok (kn := true) (by_ := (putB b i v).1) (fst := b.2.2.2.1) (lst := b.2.2.2.2) R1 ((E1.R aA).trans t1) t3 hrA hrA1 ((E1.I aA).trans t5) h200 (by rw [E1.I aA, t8, hs]; rfl) hy (fun _ => (E1.I aA).trans t6) (fun _ => (E1.I aA).trans t7) (by have := hb.2.2.2.2.2; omega) (by have := hb.2.2.2.2.2; omega)
  rw [if_pos rfl] at x1
  have hrs : knB (putB b i v).1 true b.2.2.2.1 b.2.2.2.2 (exS (putB b i v).1 b.2.1) = rsB (putB b i v) := by
    rw [knB_t]
    unfold rsB
    rw [if_pos (show (putB b i v).2.2.1 = true from hs)]
    rfl
  rw [hrs] at x1
  rw [x1, bind_e]
  dsimp only
  have M2 : mnR m2 d acc x := (hm.on E1 dA).on x3 hdr
  have D2 : gR m2 d 0 = some r := (x3.R hdr).trans ((E1.R dA).trans hd)
  have G2 : gR m2 A 0 = some (A + 1) := (x3.R hrA).trans ((E1.R aA).trans t1)
  have W2 : ∀ q, gI m2 (A + 1) q = if q = i then nI v else gI m (A + 1) q := fun q => (x3.I hrA1).trans (W1 q)
  -- the byte is put back
  have back : ∀ m3 acc', mnR m3 d acc' x → gR m3 d 0 = some r → rdS K m3 r → eqOn (fun q => q ≠ d) m2 m3 → szm m3 = szm m2 → ∃ m', f_X2_tryChange_72 K d A (nI i) (nI v) m3 (nI (b.1 i)) = some m' ∧ rdS K m' r ∧ gR m' d 0 = some r ∧ mnR m' d acc' x ∧ eqOn (offm r d) m m' ∧ szm m' = szm m := fun m3 acc' a1 a2 a3 a4 a5 => by
    unfold f_X2_tryChange_72
    have hdA1 : A ≠ d := fun z => hdA.1 z.symm
    have hdA2 : A + 1 ≠ d := fun z => hdA.2 z.symm
    rw [ldA_n ((a4.R hdA1).trans G2) t3, bind_e, asI_n (lenK_of t3) (by omega) (by omega), bind_e]
    have E9 : eqOn (fun q => q ≠ A + 1) m3 (sI m3 (A + 1) i (nI (b.1 i))) := eqOn_sI (fun z => z rfl)
    refine ⟨_, rfl, a3.on E9 (show r ≠ A + 1 from fun z => hrA1.1 z.symm), a2, a1.on E9 dA, fun q hq k => ?_, a5.trans (x4.trans z1)⟩
    by_cases cq : q = A + 1
    · subst cq
      refine ⟨?_, ?_, ?_⟩
      · rw [gI_sIa]
        by_cases ck : k = i
        · rw [if_pos ck, ck, t4 i hi]
        · rw [if_neg ck, a4.I hdA2, W2, if_neg ck]
      · show gJ m3 (A + 1) k = _
        rw [a4.J hdA2, x3.J hrA1]; exact (Q1 _ _).1
      · show gR m3 (A + 1) k = _
        rw [a4.R hdA2, x3.R hrA1]; exact (Q1 _ _).2
    · have := ((E1.mono (p' := fun q => q ≠ A + 1 ∧ offm r d q) (fun _ z => z.1)).trans (x3.mono (fun _ z => z.2.2))).trans ((a4.mono (fun _ z => z.2.1)).trans (E9.mono (fun _ z => z.1)))
      exact this q ⟨cq, hq⟩ k
  have hv2 : v ≤ 255 := by omega
  have hdr2 : r ≠ d := fun z => hdr.1 z.symm
  by_cases c3 : sndB (putB b i v) = true
  · rw [if_pos ((flt_snd hb' hs).mpr c3), if_pos (show v ≤ 255 ∧ (decide (v ≠ b.1 i) && sndB (putB b i v)) = true from ⟨hv2, by rw [c3]; simp [c2]⟩)]
    unfold f_X2_tryChange_62
    simp only [bd_e]
    have len1 : (acc ++ [256 * i + v]).length = acc.length + 1 := by rw [List.length_append]; rfl
    have up1 : nI acc.length + (1 : Int32) = nI (acc.length + 1) := by rw [nI_1]
    rw [M2.1, M2.2.1]
    by_cases c4 : nI acc.length = x
    · rw [if_pos c4]
      have g1 : gI (sI (sI m2 d 3 (nI i)) d 4 (nI v)) d 1 = nI acc.length := by rw [gI_sI_n (Or.inr (by decide)), gI_sI_n (Or.inr (by decide))]; exact M2.1
      rw [g1, up1]
      refine back (sI (sI (sI m2 d 3 (nI i)) d 4 (nI v)) d 1 (nI (acc.length + 1))) _ ?_ D2 ?_ ?_ rfl
      · refine ⟨by rw [gI_sI_s, len1], by rw [gI_sI_n (Or.inr (by decide)), gI_sI_n (Or.inr (by decide)), gI_sI_n (Or.inr (by decide))]; exact M2.2.1, fun n key hn1 hn2 hn3 => ?_⟩
        have : n = acc.length := by rw [← c4] at hn2; exact ((nI_eq (by omega) (by omega)).mp hn2).symm
        subst this
        rw [List.getElem?_append_right (Nat.le_refl _), Nat.sub_self] at hn3
        cases hn3
        rw [k1, k2, gI_sI_n (Or.inr (by decide)), gI_sI_n (Or.inr (by decide)), gI_sI_s, gI_sI_n (Or.inr (by decide)), gI_sI_s]
        exact ⟨rfl, rfl⟩
      · exact x2.on (p := fun q => q ≠ d) (((eqOn_sI (fun z => z rfl)).trans (eqOn_sI (fun z => z rfl))).trans (eqOn_sI (fun z => z rfl))) hdr2
      · exact ((eqOn_sI (fun z => z rfl)).trans (eqOn_sI (fun z => z rfl))).trans (eqOn_sI (fun z => z rfl))
    · rw [if_neg c4, up1]
      refine back (sI m2 d 1 (nI (acc.length + 1))) _ ?_ D2 ?_ ?_ rfl
      · refine ⟨by rw [gI_sI_s, len1], by rw [gI_sI_n (Or.inr (by decide))]; exact M2.2.1, fun n key hn1 hn2 hn3 => ?_⟩
        have hne : n ≠ acc.length := fun z => c4 (by rw [hn2, z])
        have hlt : n < acc.length := by
          have := (List.getElem?_eq_some_iff.mp hn3).1
          omega
        rw [List.getElem?_append_left hlt] at hn3
        rw [gI_sI_n (Or.inr (by decide)), gI_sI_n (Or.inr (by decide))]
        exact M2.2.2 n key hn1 hn2 hn3
      · exact x2.on (p := fun q => q ≠ d) (eqOn_sI (fun z => z rfl)) hdr2
      · exact eqOn_sI (fun z => z rfl)
  · rw [if_neg (fun z => c3 ((flt_snd hb' hs).mp z)), if_neg (fun z => c3 (by have := z.2; rw [Bool.and_eq_true] at this; exact this.2))]
    exact back m2 acc M2 D2 x2 (eqOn.refl m2) rfl
theorem pk_add251 (n : Nat) : nI n + (251 : Int32) = nI (n + 251) := by
  rw [show (251 : Int32) = iZ 251 from rfl, ← iZ_nat, iZ_add, ← iZ_nat]; rfl
/-- the seek -/
theorem good_chk {b : Bk} (hb : bkOk b) (hs : b.2.2.1 = true) {k : Nat} (hg : goodK b k = true) (hk : k / 256 < b.2.1 - 1) : b.1 (b.2.1 - 1) = chk (fun q => if q = k / 256 then k % 256 else b.1 q) (b.2.1 - 1) := by
  unfold goodK at hg
  rw [Bool.and_eq_true] at hg
  have := snd_chk (b := putB b (k / 256) (k % 256)) hs hg.2
  have e : (putB b (k / 256) (k % 256)).1 (b.2.1 - 1) = b.1 (b.2.1 - 1) := if_neg (by omega)
  have e' : (putB b (k / 256) (k % 256)).2.1 = b.2.1 := rfl
  rw [e', e] at this
  exact this
theorem good_last {b : Bk} (hb : bkOk b) (hs : b.2.2.1 = true) {k : Nat} (hg : goodK b k = true) (hk : k / 256 = b.2.1 - 1) : k % 256 = chk b.1 (b.2.1 - 1) := by
  unfold goodK at hg
  rw [Bool.and_eq_true] at hg
  have := snd_chk (b := putB b (k / 256) (k % 256)) hs hg.2
  have e : (putB b (k / 256) (k % 256)).1 (b.2.1 - 1) = k % 256 := if_pos hk.symm
  have e' : (putB b (k / 256) (k % 256)).2.1 = b.2.1 := rfl
  have e'' : chk (putB b (k / 256) (k % 256)).1 (b.2.1 - 1) = chk b.1 (b.2.1 - 1) := chk_congr (fun q hq => if_neg (by omega))
  rw [e', e, e''] at this
  exact this
theorem mndU_len (b : Bk) (n : Nat) : (mndU b n).length ≤ n := by
  unfold mndU
  exact Nat.le_trans (List.length_filter_le _ _) (by rw [List.length_range]; exact Nat.le_refl _)
theorem tryA_last {b : Bk} (hb : bkOk b) (hs : b.2.2.1 = true) : tryA b (mndU b (256 * (b.2.1 - 1))) (b.2.1 - 1) (chk b.1 (b.2.1 - 1)) = mndL b := by
  have h15 := hb.2.2.2.1 hs
  have hc := chk_lt b.1 (b.2.1 - 1)
  unfold mndL tryA
  rw [mndU_step (b := b) (n := 256 * (b.2.1 - 1)) (n' := 256 * b.2.1) (cs := [256 * (b.2.1 - 1) + chk b.1 (b.2.1 - 1)]) (by omega) (List.pairwise_singleton _ _) (fun k hk => by rw [List.mem_singleton] at hk; omega) (fun k h1 h2 h3 => by
    have := good_last hb hs h3 (by omega)
    rw [List.mem_singleton]; omega)]
  by_cases c : goodK b (256 * (b.2.1 - 1) + chk b.1 (b.2.1 - 1)) = true
  · rw [if_pos ⟨by omega, c⟩, List.filter_cons_of_pos c, List.filter_nil]
  · rw [if_neg (fun z => c z.2), List.filter_cons_of_neg c, List.filter_nil, List.append_nil]
theorem tryA_step {b : Bk} (hb : bkOk b) (hs : b.2.2.1 = true) {i fac : Nat} (hi : i < b.2.1 - 1) (hf : facR fac (b.2.1 - 1 - 1 - i)) {rem : Nat} (hrem : rem = (((b.1 i : Int) + ((b.1 (b.2.1 - 1) : Int) - chk b.1 (b.2.1 - 1)) * fac) % 251).toNat) : tryA b (tryA b (mndU b (256 * i)) i rem) i (rem + 251) = mndU b (256 * (i + 1)) := by
  have hr : rem < 251 := by omega
  have key : ∀ k, 256 * i ≤ k → k < 256 * (i + 1) → goodK b k = true → k = 256 * i + rem ∨ k = 256 * i + (rem + 251) := fun k h1 h2 h3 => by
    have e1 := good_chk hb hs h3 (by omega)
    have e2 := good_rem (f := b.1) hi hf (show b.1 (b.2.1 - 1) = chk (fun q => if q = i then k % 256 else b.1 q) (b.2.1 - 1) by rw [show k / 256 = i by omega] at e1; exact e1)
    obtain ⟨t, ht⟩ := e2
    generalize (b.1 i : Int) + ((b.1 (b.2.1 - 1) : Int) - chk b.1 (b.2.1 - 1)) * fac = Z at ht hrem
    have hk1 : k % 256 = k - 256 * i := by omega
    rw [hk1] at ht
    have hk2 : k - 256 * i < 256 := by omega
    clear e1 hk1
    omega
  have hcs : mndU b (256 * (i + 1)) = mndU b (256 * i) ++ ((if rem + 251 ≤ 255 then [256 * i + rem, 256 * i + (rem + 251)] else [256 * i + rem]).filter (goodK b)) := by
    by_cases c : rem + 251 ≤ 255
    · rw [if_pos c]
      refine mndU_step (by omega) (by simp) (fun k hk => ?_) (fun k h1 h2 h3 => ?_)
      · simp only [List.mem_cons, List.not_mem_nil, or_false] at hk; omega
      · simp only [List.mem_cons, List.not_mem_nil, or_false]; exact key k h1 h2 h3
    · rw [if_neg c]
      refine mndU_step (by omega) (by simp) (fun k hk => ?_) (fun k h1 h2 h3 => ?_)
      · simp only [List.mem_cons, List.not_mem_nil, or_false] at hk; omega
      · simp only [List.mem_cons, List.not_mem_nil, or_false]
        rcases key k h1 h2 h3 with z | z
        · exact z
        · omega
  rw [hcs]
  unfold tryA
  by_cases c : rem + 251 ≤ 255
  · rw [if_pos c]
    cases g1 : goodK b (256 * i + rem) <;> cases g2 : goodK b (256 * i + (rem + 251)) <;> simp [g1, g2, c, show rem ≤ 255 by omega]
  · rw [if_neg c, if_neg (fun z => c z.1)]
    cases g1 : goodK b (256 * i + rem) <;> simp [g1, show rem ≤ 255 by omega]
/-- where the CHECK is no remainder, no byte of the points mends it -/
theorem mnd_none {b : Bk} (hb : bkOk b) (hs : b.2.2.1 = true) (hc : 251 ≤ b.1 (b.2.1 - 1)) {i : Nat} (hi : i ≤ b.2.1 - 1) : mndU b (256 * (b.2.1 - 1)) = mndU b (256 * i) := by
  rw [mndU_step (b := b) (n := 256 * i) (n' := 256 * (b.2.1 - 1)) (cs := []) (by omega) List.Pairwise.nil (fun k hk => by cases hk) (fun k h1 h2 h3 => by
    have := good_chk hb hs h3 (by omega)
    have := chk_lt (fun q => if q = k / 256 then k % 256 else b.1 q) (b.2.1 - 1)
    omega)]
  rw [List.filter_nil, List.append_nil]
/-- all that stands while the mender seeks -/
def mdR (K : Kn) (m : Mem) (r d A : Nat) (b : Bk) (acc : List Nat) (x : Int32) : Prop := rdS K m r ∧ gR m d 0 = some r ∧ bkR K m A b ∧ mnR m d acc x
def mdO (r d A : Nat) (b : Bk) : Prop := bkOk b ∧ b.2.2.1 = true ∧ (d ≠ A ∧ d ≠ A + 1) ∧ offr r d ∧ offr r A ∧ offr r (A + 1)
theorem mdR.hr {K : Kn} {m : Mem} {r d A : Nat} {b : Bk} {acc : List Nat} {x : Int32} (h : mdR K m r d A b acc x) : rdS K m r := h.1
theorem mdR.hd {K : Kn} {m : Mem} {r d A : Nat} {b : Bk} {acc : List Nat} {x : Int32} (h : mdR K m r d A b acc x) : gR m d 0 = some r := h.2.1
theorem mdR.hA {K : Kn} {m : Mem} {r d A : Nat} {b : Bk} {acc : List Nat} {x : Int32} (h : mdR K m r d A b acc x) : bkR K m A b := h.2.2.1
theorem mdR.hm {K : Kn} {m : Mem} {r d A : Nat} {b : Bk} {acc : List Nat} {x : Int32} (h : mdR K m r d A b acc x) : mnR m d acc x := h.2.2.2
theorem mdO.hb {r d A : Nat} {b : Bk} (h : mdO r d A b) : bkOk b := h.1
theorem mdO.hs {r d A : Nat} {b : Bk} (h : mdO r d A b) : b.2.2.1 = true := h.2.1
theorem mdO.hdA {r d A : Nat} {b : Bk} (h : mdO r d A b) : d ≠ A ∧ d ≠ A + 1 := h.2.2.1
theorem mdO.hdr {r d A : Nat} {b : Bk} (h : mdO r d A b) : offr r d := h.2.2.2.1
theorem mdO.hrA {r d A : Nat} {b : Bk} (h : mdO r d A b) : offr r A := h.2.2.2.2.1
theorem mdO.hrA1 {r d A : Nat} {b : Bk} (h : mdO r d A b) : offr r (A + 1) := h.2.2.2.2.2
theorem try_md {K : Kn} {m : Mem} {r d A : Nat} {b : Bk} {acc : List Nat} {x : Int32} (o : mdO r d A b) (h : mdR K m r d A b acc x) (hl : acc.length < 100000) {i v : Nat} (hi : i < b.2.1) (hv : v < 512) :
    ∃ m', F_X2_tryChange K m d A (nI i) (nI v) = some m' ∧ mdR K m' r d A b (tryA b acc i v) x ∧ eqOn (offm r d) m m' ∧ szm m' = szm m := by
  obtain ⟨m', e1, e2, e3, e4, e5, e6⟩ := tryChange_ok h.hr h.hd h.hA o.hb o.hs o.hdA o.hdr o.hrA o.hrA1 h.hm hl hi hv
  exact ⟨m', e1, ⟨e2, e3, h.hA.on e5 ⟨fun z => o.hdA.1 z.symm, o.hrA⟩ ⟨fun z => o.hdA.2 z.symm, o.hrA1⟩, e4⟩, e5, e6⟩
theorem seek_end {K : Kn} {m : Mem} {r d A : Nat} {b : Bk} {x x2 : Int32} (o : mdO r d A b) (h : mdR K m r d A b (mndU b (256 * (b.2.1 - 1))) x) : ∃ m', f_X2_seek_161 K d A x2 m (nI (b.2.1 - 1)) (nI (chk b.1 (b.2.1 - 1))) = some (nI (mndL b).length, m') ∧ mdR K m' r d A b (mndL b) x ∧ eqOn (offm r d) m m' ∧ szm m' = szm m := by
  unfold f_X2_seek_161
  have h15 := o.hb.2.2.2.1 o.hs
  have h200 := o.hb.2.2.1
  have hc := chk_lt b.1 (b.2.1 - 1)
  obtain ⟨m', e1, e2, e3, e4⟩ := try_md o h (by have := mndU_len b (256 * (b.2.1 - 1)); omega) (i := b.2.1 - 1) (v := chk b.1 (b.2.1 - 1)) (by omega) (by omega)
  rw [tryA_last o.hb o.hs] at e2
  rw [e1, bind_e, e2.hm.1]
  exact ⟨m', rfl, e2, e3, e4⟩
theorem seek_83 {K : Kn} {r d A : Nat} {b : Bk} {x x2 : Int32} (o : mdO r d A b) : ∀ (f : Nat) (m : Mem) (i fac : Nat), i ≤ b.2.1 - 1 → b.2.1 - 1 - i < f → (i < b.2.1 - 1 → facR fac (b.2.1 - 1 - 1 - i)) → mdR K m r d A b (mndU b (256 * i)) x →
    ∃ m', f_X2_seek_83 K d A x2 f m (nI (b.2.1 - 1)) (nI (chk b.1 (b.2.1 - 1))) (iZ ((b.1 (b.2.1 - 1) : Int) - chk b.1 (b.2.1 - 1))) (nI fac) (nI i) = some (nI (mndL b).length, m') ∧ mdR K m' r d A b (mndL b) x ∧ eqOn (offm r d) m m' ∧ szm m' = szm m
  | 0, _, _, _, _, h, _, _ => absurd h (Nat.not_lt_zero _)
  | f + 1, m, i, fac, hi, hf, hfac, h => by
    have unf : f_X2_seek_83 K d A x2 (f + 1) m (nI (b.2.1 - 1)) (nI (chk b.1 (b.2.1 - 1))) (iZ ((b.1 (b.2.1 - 1) : Int) - chk b.1 (b.2.1 - 1))) (nI fac) (nI i) = f_X2_seek_83B K d A x2 (f_X2_seek_83 K d A x2 f) m (nI (b.2.1 - 1)) (nI (chk b.1 (b.2.1 - 1))) (iZ ((b.1 (b.2.1 - 1) : Int) - chk b.1 (b.2.1 - 1))) (nI fac) (nI i) := rfl
    rw [unf]
    unfold f_X2_seek_83B
    have h15 := o.hb.2.2.2.1 o.hs
    have h200 := o.hb.2.2.1
    have hc := chk_lt b.1 (b.2.1 - 1)
    have hcb := o.hb.1 (b.2.1 - 1) (by omega)
    by_cases c1 : b.2.1 - 1 ≤ i
    · rw [if_pos ((nI_leI (by omega) (by omega)).mpr c1)]
      rw [show i = b.2.1 - 1 by omega] at h
      exact seek_end o h
    rw [if_neg (fun z => c1 ((nI_leI (by omega) (by omega)).mp z))]
    obtain ⟨t1, t2, t3, t4, t5, t6, t7, t8, -⟩ := id h.hA
    rw [ldA_n t1 t3, bind_e, alI_n (lenK_of t3) (by omega) (by omega), bind_e, t4 (b.2.1 - 1) (by omega), show (251 : Int32) = nI 251 from rfl]
    by_cases c2 : 251 ≤ b.1 (b.2.1 - 1)
    · rw [if_pos ((nI_leI (by omega) (by omega)).mpr c2)]
      rw [← mnd_none o.hb o.hs c2 hi] at h
      exact seek_end o h
    rw [if_neg (fun z => c2 ((nI_leI (by omega) (by omega)).mp z)), bind_e, alI_n (lenK_of t3) (by omega) (by omega), bind_e, t4 i (by omega)]
    have hbi := o.hb.1 i (by omega)
    have hfc := hfac (by omega)
    have hfl := hfc.1
    have hz : nI (b.1 i) + iZ ((b.1 (b.2.1 - 1) : Int) - chk b.1 (b.2.1 - 1)) * nI fac = iZ ((b.1 i : Int) + ((b.1 (b.2.1 - 1) : Int) - chk b.1 (b.2.1 - 1)) * fac) := by
      rw [← iZ_nat (b.1 i), ← iZ_nat fac, iZ_mul, iZ_add]
    have hbd : -251 * 251 ≤ ((b.1 (b.2.1 - 1) : Int) - chk b.1 (b.2.1 - 1)) * fac ∧ ((b.1 (b.2.1 - 1) : Int) - chk b.1 (b.2.1 - 1)) * fac ≤ 251 * 251 := by
      have a1 : ((b.1 (b.2.1 - 1) : Int) - chk b.1 (b.2.1 - 1)) ≤ 251 := by omega
      have a2 : -251 ≤ ((b.1 (b.2.1 - 1) : Int) - chk b.1 (b.2.1 - 1)) := by omega
      generalize ((b.1 (b.2.1 - 1) : Int) - chk b.1 (b.2.1 - 1)) = Y at a1 a2
      constructor
      · refine Int.le_trans ?_ (Int.mul_le_mul_of_nonneg_right a2 (show (0 : Int) ≤ fac by omega))
        omega
      · refine Int.le_trans (Int.mul_le_mul_of_nonneg_right a1 (show (0 : Int) ≤ fac by omega)) ?_
        omega
    have hst := tryA_step o.hb o.hs (i := i) (fac := fac) (by omega) hfc rfl
    rw [hz, show nI 251 = (251 : Int32) from rfl, floorMod_ok (by omega) (by omega), bind_e]
    have hremlt : (((b.1 i : Int) + ((b.1 (b.2.1 - 1) : Int) - chk b.1 (b.2.1 - 1)) * fac) % 251).toNat < 251 := by omega
    generalize (((b.1 i : Int) + ((b.1 (b.2.1 - 1) : Int) - chk b.1 (b.2.1 - 1)) * fac) % 251).toNat = rem at hst hremlt ⊢
    have hml := mndU_len b (256 * i)
    obtain ⟨m1, e1, e2, e3, e4⟩ := try_md o h (by omega) (i := i) (v := rem) (by omega) (by omega)
    have ht1 := tryA_len (b := b) (acc := mndU b (256 * i)) (i := i) (v := rem)
    obtain ⟨m2, f1, f2, f3, f4⟩ := try_md o e2 (by omega) (i := i) (v := rem + 251) (by omega) (by omega)
    rw [hst] at f2
    rw [e1, bind_e, show nI rem + (251 : Int32) = nI (rem + 251) from pk_add251 rem, f1, bind_e]
    simp only [bd_e]
    rw [show nI fac * (31 : Int32) = nI (fac * 31) from pk_mul fac 31, show (251 : Int32) = nI 251 from rfl, pk_rem (by omega) (by omega) (by omega), nI_1]
    obtain ⟨m3, g1, g2, g3, g4⟩ := seek_83 (x2 := x2) o f m2 (i + 1) (fac * 31 % 251) (by omega) (by omega) (fun hlt => by
      rw [show b.2.1 - 1 - 1 - i = (b.2.1 - 1 - 1 - (i + 1)) + 1 by omega] at hfc
      exact fac_dn hfc) f2
    exact ⟨m3, g1, g2, (e3.trans f3).trans g3, g4.trans (f4.trans e4)⟩
theorem seek_57 {K : Kn} {r d A : Nat} {b : Bk} {x x2 : Int32} (o : mdO r d A b) : ∀ (f : Nat) (m : Mem) (i fac : Nat), 1 ≤ i → i ≤ b.2.1 - 1 → b.2.1 - 1 - i < f → facR fac (i - 1) → mdR K m r d A b [] x →
    ∃ m', f_X2_seek_57 K d A x2 f m (nI (b.2.1 - 1)) (nI (chk b.1 (b.2.1 - 1))) (iZ ((b.1 (b.2.1 - 1) : Int) - chk b.1 (b.2.1 - 1))) (nI fac) (nI i) = some (nI (mndL b).length, m') ∧ mdR K m' r d A b (mndL b) x ∧ eqOn (offm r d) m m' ∧ szm m' = szm m
  | 0, _, _, _, _, _, h, _, _ => absurd h (Nat.not_lt_zero _)
  | f + 1, m, i, fac, h1, hi, hf, hfac, h => by
    have unf : f_X2_seek_57 K d A x2 (f + 1) m (nI (b.2.1 - 1)) (nI (chk b.1 (b.2.1 - 1))) (iZ ((b.1 (b.2.1 - 1) : Int) - chk b.1 (b.2.1 - 1))) (nI fac) (nI i) = f_X2_seek_57B K d A x2 (f_X2_seek_57 K d A x2 f) m (nI (b.2.1 - 1)) (nI (chk b.1 (b.2.1 - 1))) (iZ ((b.1 (b.2.1 - 1) : Int) - chk b.1 (b.2.1 - 1))) (nI fac) (nI i) := rfl
    rw [unf]
    unfold f_X2_seek_57B
    have h15 := o.hb.2.2.2.1 o.hs
    have h200 := o.hb.2.2.1
    have hfl := hfac.1
    by_cases c1 : b.2.1 - 1 ≤ i
    · rw [if_pos ((nI_leI (by omega) (by omega)).mpr c1)]
      have hfin := seek_83 (K := K) (x := x) (x2 := x2) o FU m 0 fac (by omega) (by rw [FU_e]; omega) (fun _ => by rw [show b.2.1 - 1 - 1 - 0 = i - 1 by omega]; exact hfac) (by
        have : mndU b (256 * 0) = [] := rfl
        rw [this]; exact h)
      exact hfin
    rw [if_neg (fun z => c1 ((nI_leI (by omega) (by omega)).mp z))]
    simp only [bd_e]
    rw [show nI fac * (81 : Int32) = nI (fac * 81) from pk_mul fac 81, show (251 : Int32) = nI 251 from rfl, pk_rem (by omega) (by omega) (by omega), nI_1]
    exact seek_57 (x2 := x2) o f m (i + 1) (fac * 81 % 251) (by omega) (by omega) (by omega) (by rw [show i + 1 - 1 = (i - 1) + 1 by omega]; exact fac_up hfac) h
theorem seek_ok {K : Kn} {m : Mem} {r d A : Nat} {b : Bk} (o : bkOk b ∧ (d ≠ A ∧ d ≠ A + 1) ∧ offr r d ∧ offr r A ∧ offr r (A + 1)) (hr : rdS K m r) (hd : gR m d 0 = some r) (hA : bkR K m A b) (x : Int32) : ∃ m' acc, F_X2_seek K m d A x = some (nI acc.length, m') ∧ acc = (if b.2.2.1 = true ∧ sndB b = false then mndL b else []) ∧ rdS K m' r ∧ gR m' d 0 = some r ∧ mnR m' d acc x ∧ eqOn (offm r d) m m' ∧ szm m' = szm m := by
  unfold F_X2_seek f_X2_seek
  simp only [bd_e]
  have E : eqOn (fun q => q ≠ d) m (sI (sI m d 1 0) d 2 x) := (eqOn_sI (fun z => z rfl)).trans (eqOn_sI (fun z => z rfl))
  have R2 : rdS K (sI (sI m d 1 0) d 2 x) r := hr.on E (fun z => o.2.2.1.1 z.symm)
  have D2 : gR (sI (sI m d 1 0) d 2 x) d 0 = some r := hd
  have A2 : bkR K (sI (sI m d 1 0) d 2 x) A b := hA.on E (fun z => o.2.1.1 z.symm) (fun z => o.2.1.2 z.symm)
  have M2 : mnR (sI (sI m d 1 0) d 2 x) d [] x := ⟨by rw [gI_sI_n (Or.inr (by decide)), gI_sI_s]; rfl, gI_sI_s, fun n key _ _ h => by simp at h⟩
  have z2 : szm (sI (sI m d 1 0) d 2 x) = szm m := rfl
  have E2 : eqOn (offm r d) m (sI (sI m d 1 0) d 2 x) := E.mono (fun _ z => z.1)
  generalize sI (sI m d 1 0) d 2 x = m2 at R2 D2 A2 M2 z2 E2 ⊢
  obtain ⟨t1, t2, t3, t4, t5, t6, t7, t8, -⟩ := id A2
  rw [t8]
  by_cases c1 : b.2.2.1 = true
  · simp only [if_pos c1]
    rw [if_neg (by decide)]
    by_cases c2 : sndB b = true
    · rw [if_pos ((wrong_ok A2 o.1).mpr c2), if_neg (by rw [c2]; simp)]
      exact ⟨m2, [], rfl, rfl, R2, D2, M2, E2, z2⟩
    · rw [if_neg (fun z => c2 ((wrong_ok A2 o.1).mp z)), if_pos ⟨c1, by cases h : sndB b <;> simp_all⟩]
      have h15 := o.1.2.2.2.1 c1
      have h200 := o.1.2.2.1
      rw [t5, show nI b.2.1 - (1 : Int32) = nI (b.2.1 - 1) from pk_sub (b := 1) (by omega), checkOf_ok t1 t3 (by omega) (fun i hi => ⟨t4 i (by omega), o.1.1 i (by omega)⟩), bind_e, ldA_n t1 t3, bind_e, alI_n (lenK_of t3) (by omega) (by omega), bind_e, t4 (b.2.1 - 1) (by omega), ← iZ_nat (b.1 (b.2.1 - 1)), ← iZ_nat (chk b.1 (b.2.1 - 1)), iZ_sub, iZ_nat]
      obtain ⟨m', e1, e2, e3, e4⟩ := seek_57 (K := K) (x := x) (x2 := x) (r := r) (d := d) (A := A) ⟨o.1, c1, o.2.1, o.2.2.1, o.2.2.2.1, o.2.2.2.2⟩ FU m2 1 1 (by omega) (by omega) (by rw [FU_e]; omega) ⟨by omega, eq251.refl _⟩ ⟨R2, D2, A2, M2⟩
      exact ⟨m', mndL b, e1, rfl, e2.hr, e2.hd, e2.hm, E2.trans e3, e4.trans z2⟩
  · simp only [if_neg c1, if_true]
    rw [if_neg (fun z => c1 z.1)]
    exact ⟨m2, [], rfl, rfl, R2, D2, M2, E2, z2⟩
/-- the mends of a block -/
def mnds (b : Bk) : List Nat := if b.2.2.1 = true ∧ sndB b = false then mndL b else []
theorem mnds_len {b : Bk} (h : bkOk b) : (mnds b).length ≤ 51200 := by
  unfold mnds
  split
  · exact Nat.le_trans (mndU_len b _) (by have := h.2.2.1; omega)
  · exact Nat.zero_le _
def aMends (s : St) (x k : Int32) : Int32 := match bko s x k with
  | none => -2
  | some b => nI (mnds b).length
def aMend (s : St) (x k i w : Int32) : Int32 := match bko s x k with
  | none => -2
  | some b => if w < 0 then -2 else if w ≤ (1 : Int32) then (if i < 0 then -1 else match (mnds b)[i.toNatClampNeg]? with
    | none => -1
    | some key => if w = 0 then nI (key / 256) else nI (key % 256)) else -2
theorem seek_X {K : Kn} {m : Mem} {B a n i : Nat} {s : St} {b : Bk} (hok : stOk s) (h : RX K m B s) (hi : i < 5) (ha : a = B + 2 + 38 * i) (hn : n < 16) (q1 : bkR K m (a + 6 + 2 * n) b) (q2 : bkOk b) (x : Int32) : ldO K m B 7 2 = some (B + 202) ∧ ∃ m', F_X2_seek K m (B + 202) (a + 6 + 2 * n) x = some (nI (mnds b).length, m') ∧ RX K m' B s ∧ eqOn (off B 205) m m' ∧ szm m' = szm m ∧ mnR m' (B + 202) (mnds b) x ∧ ldO K m' B 7 2 = some (B + 202) := by
  have hro := h.2.1
  have hK := h.1.2.2.2.2.2.1
  refine ⟨ldO_n hro.2.2.2.2.2.2.1 hK, ?_⟩
  obtain ⟨m', acc, e1, e2, e3, e4, e5, e6, e7⟩ := seek_ok (r := B + 199) (d := B + 202) (A := a + 6 + 2 * n) ⟨q2, ⟨by omega, by omega⟩, ⟨by omega, by omega⟩, ⟨by omega, by omega⟩, ⟨by omega, by omega⟩⟩ h.2.2.1.1 h.2.2.1.2.2.2.2.2 q1 x
  have : acc = mnds b := e2
  subst this
  have eq : eqOn (offq B) m m' := e6.mono (fun q hq => by
    have hq : q < B + 192 ∨ B + 203 ≤ q := hq
    exact ⟨by omega, by omega, by omega⟩)
  have hsc := h.2.2.1
  have om : ∀ q, q ≠ B + 202 → q ≠ B + 199 → q ≠ B + 200 → offm (B + 199) (B + 202) q := fun q g1 g2 g3 => ⟨g1, g2, g3⟩
  have hX : RX K m' B s := h.q hok eq ⟨e3, hsc.2.1.on e6 (om _ (by omega) (by omega) (by omega)), hsc.2.2.1.on e6 (om _ (by omega) (by omega) (by omega)), (e6.R (om _ (by omega) (by omega) (by omega))).trans hsc.2.2.2.1, (e6.R (om _ (by omega) (by omega) (by omega))).trans hsc.2.2.2.2.1, e4⟩
  exact ⟨m', e1, hX, offq_off eq, e7, e5, ldO_n hX.2.1.2.2.2.2.2.2.1 hK⟩
theorem mends_ok {K : Kn} {m : Mem} {B : Nat} {s : St} (hok : stOk s) (h : RX K m B s) (x k : Int32) : okX K m B (F_X8_mends K m B x k) (aMends s x k) s := by
  obtain ⟨hN, hSb⟩ := blockOf_ok hok h x k
  unfold F_X8_mends f_X8_mends aMends
  cases hb : bko s x k with
  | none => rw [hN hb, bind_e, caseO_n]; exact okX.same h
  | some b =>
    obtain ⟨S, j, n, a, π, hs, rfl, hj, hSo, rfl, hn, hget, hal, ⟨i', hi', ha⟩, e3, e3', f1, q1, q2, hπ⟩ := hSb b hb
    obtain ⟨g1, m', g2, g3, g4, g5, -⟩ := seek_X hok h hi' ha hπ q1 q2 (-1)
    rw [f1, bind_e, caseO_v, gd_t q1.2.1, g1, bind_e, g2, bind_e]
    exact ⟨m', rfl, g3, g4, g5⟩
theorem mend_ok {K : Kn} {m : Mem} {B : Nat} {s : St} (hok : stOk s) (h : RX K m B s) (x k i w : Int32) : okX K m B (F_X8_mend K m B x k i w) (aMend s x k i w) s := by
  obtain ⟨hN, hSb⟩ := blockOf_ok hok h x k
  unfold F_X8_mend f_X8_mend aMend
  cases hb : bko s x k with
  | none => rw [hN hb, bind_e, caseO_n]; exact okX.same h
  | some b =>
    obtain ⟨S, j, n, a, π, hs, rfl, hj, hSo, rfl, hn, hget, hal, ⟨i', hi', ha⟩, e3, e3', f1, q1, q2, hπ⟩ := hSb b hb
    rw [f1, bind_e, caseO_v, gd_t q1.2.1]
    dsimp only
    by_cases c1 : w < 0
    · rw [if_pos c1, if_pos c1]; exact okX.same h
    rw [if_neg c1, if_neg c1]
    by_cases c2 : w ≤ (1 : Int32)
    · rw [if_pos c2, if_pos c2]
      by_cases c3 : i < 0
      · rw [if_pos c3, if_pos c3]; exact okX.same h
      rw [if_neg c3, if_neg c3]
      obtain ⟨ii, hii, rfl, hic⟩ := idx_nI c3
      obtain ⟨g1, m', g2, g3, g4, g5, g6, g7⟩ := seek_X hok h hi' ha hπ q1 q2 (nI ii)
      have hml := mnds_len q2
      rw [g1, bind_e, g2, bind_e, hic]
      dsimp only
      by_cases c4 : ii < (mnds b).length
      · rw [if_pos ((nI_ltI (by omega) (by omega)).mpr c4), g7, bind_e, bind_e]
        obtain ⟨key, hk⟩ := get_some c4
        rw [hk]
        dsimp only
        obtain ⟨y1, y2⟩ := g6.2.2 ii key hii rfl hk
        rw [y1, y2]
        by_cases c5 : w = 0
        · rw [if_pos c5, if_pos c5]; exact ⟨m', rfl, g3, g4, g5⟩
        · rw [if_neg c5, if_neg c5]; exact ⟨m', rfl, g3, g4, g5⟩
      · rw [if_neg (fun z => c4 ((nI_ltI (by omega) (by omega)).mp z)), List.getElem?_eq_none (by omega)]
        exact ⟨m', rfl, g3, g4, g5⟩
    · rw [if_neg c2, if_neg c2]; exact okX.same h
