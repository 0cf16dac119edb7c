/-! ===== rows cleared and copied; series copied, taken from, given to ===== -/
def clw (w : Nat) (b : Int64) : Int64 := if isF b = true then b &&& lshl (-1 : Int64) (nI w) else b
def clrP (w : Nat) (q : Pt) : Pt := (q.1, clw w q.2)
def clrC (w : Nat) (x : Int32) (_ : Nat) (q : Pt) : Int32 := if clw w q.2 = q.2 then x else x + 1
theorem clearL {K : Kn} {x n w : Nat} {l : List Pt} : ∀ (f i : Nat) (m : Mem) (y : Int32), i ≤ l.length → l.length - i < f → kpI K m x n l ((l.take i).map (clrP w)) i → ∃ m', f_X5_clearLowest_12 K x (nI w) f m (lshl (-1 : Int64) (nI w)) y (nI i) = some (foldI (clrC w) y i (l.drop i), m') ∧ ptR K m' x n (l.map (clrP w)) ∧ eqOn (off x 3) m m' ∧ szm m' = szm m
  | 0, _, _, _, _, h, _ => absurd h (Nat.not_lt_zero _)
  | f + 1, i, m, y, hi, hf, h => by
    have unf : f_X5_clearLowest_12 K x (nI w) (f + 1) m (lshl (-1 : Int64) (nI w)) y (nI i) = f_X5_clearLowest_12B K x (nI w) (f_X5_clearLowest_12 K x (nI w) f) m (lshl (-1 : Int64) (nI w)) y (nI i) := rfl
    rw [unf]
    unfold f_X5_clearLowest_12B f_X5_clearLowest_68
    obtain ⟨h1, h2, h3, h4, h5, h6, h7⟩ := id h
    have s6 := h1.2.2.2.2.2
    by_cases c : l.length ≤ i
    · have hil : i = l.length := by omega
      subst hil
      rw [if_pos (h.fin c), List.drop_eq_nil_of_le c]
      refine ⟨m, rfl, ?_, eqOn.refl m, rfl⟩
      rw [List.take_of_length_le (Nat.le_refl _)] at h6
      exact ⟨h1.1, h1.2.1, h1.2.2.1, h1.2.2.2.1, h1.2.2.2.2.1, by rw [h2, List.length_map], by rw [List.length_map]; exact h3, s6, h6⟩
    · obtain ⟨q, hq⟩ := get_some (l := l) (i := i) (by omega)
      obtain ⟨a1, a2, a3, a4, a5⟩ := h.at hq
      rw [if_neg a1, drop_get hq]
      simp only [bd_e, nI_1, a3, a5, bind_e, isFinite_ok, b01]
      show ∃ m', _ = some (foldI (clrC w) (clrC w y i q) (i + 1) (l.drop (i + 1)), m') ∧ _
      have htk : (l.take (i + 1)).map (clrP w) = (l.take i).map (clrP w) ++ [clrP w q] := by
        rw [List.take_add_one, hq]; simp
      have same : clw w q.2 = q.2 → kpI K m x n l ((l.take (i + 1)).map (clrP w)) (i + 1) := by
        intro hc
        rw [htk]
        refine ⟨h1, h2, h3, by simp; omega, by omega, fun j z hz => ?_, fun j z hj hz => h7 j z (by omega) hz⟩
        rw [List.getElem?_append] at hz
        have hlen : ((l.take i).map (clrP w)).length = i := by simp; omega
        rw [hlen] at hz
        by_cases cj : j < i
        · rw [if_pos cj] at hz; exact h6 j z hz
        · rw [if_neg cj] at hz
          have hji : j - i = 0 := by
            have := (List.getElem?_eq_some_iff.mp hz).1
            simp at this; omega
          rw [hji] at hz
          simp at hz
          rw [← hz, show j = i by omega]
          have := h7 i q (Nat.le_refl _) hq
          exact ⟨this.1, by rw [this.2]; exact hc.symm⟩
      cases hF : isF q.2 with
      | false =>
        rw [if_pos rfl]
        have hc : clw w q.2 = q.2 := by unfold clw; rw [hF]; rfl
        rw [show clrC w y i q = y from if_pos hc]
        exact clearL f (i + 1) m y (by omega) (by omega) (same hc)
      | true =>
        rw [if_neg (by decide)]
        have hc' : clw w q.2 = q.2 &&& lshl (-1 : Int64) (nI w) := by unfold clw; rw [hF]; rfl
        by_cases ce : q.2 &&& lshl (-1 : Int64) (nI w) = q.2
        · rw [if_pos ((lg_cmp_eq _ _).mpr ce), show clrC w y i q = y from if_pos (hc'.trans ce)]
          exact clearL f (i + 1) m y (by omega) (by omega) (same (hc'.trans ce))
        · rw [if_neg (fun z => ce ((lg_cmp_eq _ _).mp z)), asJ_n (lenK_of h1.2.2.2.2.1) (by omega) (by omega), bind_e, show clrC w y i q = y + 1 from if_neg (fun z => ce (hc'.symm.trans z))]
          have ez : eqOn (off x 3) m (sJ m (x + 2) i (q.2 &&& lshl (-1 : Int64) (nI w))) := eqOn_sJ (fun z => (off3 z).2.2 rfl)
          obtain ⟨m2, r1, r2, r3, r4⟩ := clearL (w := w) (l := l) (n := n) f (i + 1) (sJ m (x + 2) i (q.2 &&& lshl (-1 : Int64) (nI w))) (y + 1) (by omega) (by omega) (by
            rw [htk]
            refine ⟨h1, h2, h3, by simp; omega, by omega, fun j z hz => ?_, fun j z hj hz => ?_⟩
            · rw [List.getElem?_append] at hz
              have hlen : ((l.take i).map (clrP w)).length = i := by simp; omega
              rw [hlen] at hz
              by_cases cj : j < i
              · rw [if_pos cj] at hz
                rw [gI_sJ, gJ_sJ_n (Or.inr (by omega))]
                exact h6 j z hz
              · rw [if_neg cj] at hz
                have hji : j - i = 0 := by
                  have := (List.getElem?_eq_some_iff.mp hz).1
                  simp at this; omega
                rw [hji] at hz
                simp at hz
                rw [← hz, show j = i by omega, gI_sJ, gJ_sJ_s]
                exact ⟨(h7 i q (Nat.le_refl _) hq).1, hc'.symm⟩
            · rw [gI_sJ, gJ_sJ_n (Or.inr (by omega))]
              exact h7 j z (by omega) hz)
          exact ⟨m2, r1, r2, ez.trans r3, r4⟩
def clrN (w : Nat) (l : List Pt) : Int32 := foldI (clrC w) 0 0 l
theorem clearLowest_ok {K : Kn} {m : Mem} {x n w : Nat} {l : List Pt} (h : ptR K m x n l) : ∃ m', F_X5_clearLowest K m x (nI w) = some (clrN w l, m') ∧ ptR K m' x n (l.map (clrP w)) ∧ eqOn (off x 3) m m' ∧ szm m' = szm m := by
  obtain ⟨m', e⟩ := clearL (w := w) (l := l) FU 0 m 0 (Nat.zero_le _) (by rw [FU_e]; have := pt_len h; omega) h.kp
  rw [List.drop_zero] at e
  exact ⟨m', e⟩
/-- a row becomes another -/
theorem ptBecL {K : Kn} {x y n : Nat} {l : List Pt} (hxy : off x 3 y ∧ off x 3 (y + 1) ∧ off x 3 (y + 2)) : ∀ (f i : Nat) (m : Mem), i ≤ l.length → l.length - i < f → ptR K m y n l → ptR K m x n (l.take i) → ∃ m', f_X5_become_7 K x y f m (nI i) = some m' ∧ ptR K m' x n l ∧ eqOn (off x 3) m m' ∧ szm m' = szm m
  | 0, _, _, _, h, _, _ => absurd h (Nat.not_lt_zero _)
  | f + 1, i, m, hi, hf, hy, hx => by
    have hl := pt_len hy
    have unf : f_X5_become_7 K x y (f + 1) m (nI i) = f_X5_become_7B K x y (f_X5_become_7 K x y f) m (nI i) := rfl
    rw [unf]
    unfold f_X5_become_7B
    by_cases c : l.length ≤ i
    · rw [if_pos (pt_end hy c (by omega))]
      rw [List.take_of_length_le c] at hx
      exact ⟨m, rfl, hx, eqOn.refl m, rfl⟩
    · obtain ⟨q, hq⟩ := get_some (l := l) (i := i) (by omega)
      obtain ⟨c1, e1, e2, e3, e4⟩ := pt_at hy hq
      rw [if_neg c1, e1, bind_e, e3, bind_e, e2, bind_e, e4, bind_e]
      have hln := hy.2.2.2.2.2.2.1
      obtain ⟨m1, p1, p2, p3, p4⟩ := push_ok hx (by rw [List.length_take]; omega) q.1 q.2
      rw [p1, bind_e]
      simp only [bd_e, nI_1]
      obtain ⟨m2, r1, r2, r3, r4⟩ := ptBecL hxy f (i + 1) m1 (by omega) (by omega) (hy.on p3 hxy.1 hxy.2.1 hxy.2.2) (by rw [List.take_add_one, hq]; exact p2)
      exact ⟨m2, r1, r2, p3.trans r3, r4.trans p4⟩
theorem ptBecome_ok {K : Kn} {m : Mem} {x y n : Nat} {l : List Pt} (hxy : off x 3 y ∧ off x 3 (y + 1) ∧ off x 3 (y + 2)) (hy : ptR K m y n l) (hx : ptS K m x n) : ∃ m', F_X5_become K m x y = some m' ∧ ptR K m' x n l ∧ eqOn (off x 3) m m' ∧ szm m' = szm m := by
  have e0 : eqOn (off x 3) m (sI m x 2 0) := eqOn_sI (fun z => (off3 z).1 rfl)
  obtain ⟨m', e1, e2, e3, e4⟩ := ptBecL hxy FU 0 (sI m x 2 0) (Nat.zero_le _) (by rw [FU_e]; have := pt_len hy; omega) (hy.on e0 hxy.1 hxy.2.1 hxy.2.2) hx.nil
  exact ⟨m', e1, e2, e0.trans e3, e4⟩
theorem seS.on' {p : Nat → Prop} {K : Kn} {m m' : Mem} {a : Nat} {π : Nat → Nat} (h : seS K m a π) (e : eqOn p m m') (p0 : p a) (p1 : p (a + 1)) (p2 : p (a + 2)) (p6 : ∀ j, j < 16 → p (a + 6 + 2 * j)) : seS K m' a π := by
  obtain ⟨h1, h2, h3, h4, h5, h6, h7, h8, h9⟩ := h
  exact ⟨h1, (e.R p0).trans h2, (e.R p0).trans h3, (e.R p0).trans h4, (e.R p2).trans h5, (e.R p2).trans h6, fun k hk => ⟨(h7 k hk).1, (e.R p1).trans (h7 k hk).2⟩, h8, fun j hj => (e.R (p6 j hj)).trans (h9 j hj)⟩
theorem seS_late {K : Kn} {m m' : Mem} {a : Nat} {π : Nat → Nat} (h : seS K m a π) (e : eqOn (off (a + 2) 3) m m') (g0 : gR m' (a + 2) 0 = some (a + 3)) (g1 : gR m' (a + 2) 1 = some (a + 4)) : seS K m' a π := by
  obtain ⟨h1, h2, h3, h4, h5, h6, h7, h8, h9⟩ := h
  refine ⟨h1, (e.R ?_).trans h2, (e.R ?_).trans h3, (e.R ?_).trans h4, g0, g1, fun k hk => ⟨(h7 k hk).1, (e.R ?_).trans (h7 k hk).2⟩, h8, fun j hj => (e.R ?_).trans (h9 j hj)⟩ <;> unfold off <;> omega
/-- a series becomes another -/
theorem seBecL {K : Kn} {a d : Nat} {π ρ : Nat → Nat} {bl : List Bk} (hbl : ∀ b ∈ bl, bkOk b) (h16 : bl.length ≤ 16) (had : a + 38 ≤ d ∨ d + 38 ≤ a) : ∀ (f i : Nat) (m : Mem), i ≤ bl.length → bl.length - i < f → seS K m a π → seS K m d ρ → gI m a 3 = nI bl.length → seB K m d ρ bl → seB K m a π (bl.take i) → ∃ m', f_X7_become_56 K a d f m (nI i) = some m' ∧ seS K m' a π ∧ seB K m' a π bl ∧ eqOn (off (a + 6) 32) m m' ∧ szm m' = szm m
  | 0, _, _, _, h, _, _, _, _, _ => absurd h (Nat.not_lt_zero _)
  | f + 1, i, m, hi, hf, sa, sd, h3, hd, ha => by
    have unf : f_X7_become_56 K a d (f + 1) m (nI i) = f_X7_become_56B K a d (f_X7_become_56 K a d f) m (nI i) := rfl
    rw [unf]
    unfold f_X7_become_56B
    rw [h3]
    by_cases c : bl.length ≤ i
    · rw [if_pos (nI_le c (by omega))]
      rw [List.take_of_length_le c] at ha
      exact ⟨m, rfl, sa, ha, eqOn.refl m, rfl⟩
    · obtain ⟨b, hb⟩ := get_some (l := bl) (i := i) (by omega)
      have hbo := hbl b (List.mem_of_getElem? hb)
      rw [if_neg (nI_ge (by omega) (by omega)), (sa.blk (k := i) (by omega)).1, bind_e, (sa.blk (k := i) (by omega)).2, bind_e, (sd.blk (k := i) (by omega)).1, bind_e, (sd.blk (k := i) (by omega)).2, bind_e]
      have hπ := sa.2.2.2.2.2.2.1 i (by omega)
      have hρ := sd.2.2.2.2.2.2.1 i (by omega)
      obtain ⟨m1, e1, e2, e3, e4⟩ := become_bk (hd i b hb) hbo.2.2.1 (sa.2.2.2.2.2.2.2.2 _ hπ.1) (sa.1.2.2.2.2.2.2 _ hπ.1).1 (sa.1.2.2.2.2.2.2 _ hπ.1).2 (show off (a + 6 + 2 * π i) 2 (d + 6 + 2 * ρ i) by unfold off; omega) (show off (a + 6 + 2 * π i) 2 (d + 6 + 2 * ρ i + 1) by unfold off; omega)
      rw [e1, bind_e]
      simp only [bd_e, nI_1]
      have hle : (bl.take i).length = i := by rw [List.length_take]; omega
      have ind : insr d 38 (off (a + 6 + 2 * π i) 2) := fun q h1 h2 => by unfold off; omega
      obtain ⟨m2, r1, r2, r3, r4, r5⟩ := seBecL hbl h16 had f (i + 1) m1 (by omega) (by omega) (seS_blk sa hπ.1 e3 e2.1) (sd.on e3 ind) ((e3.I (by unfold off; omega)).trans h3) (seB_on sd h16 hd e3 (fun q h1 h2 => by unfold off; omega)) (by
        rw [List.take_add_one, hb]
        exact seB_snoc sa (by rw [hle]; omega) ha (by rw [hle]; exact e3) (by rw [hle]; exact e2))
      exact ⟨m2, r1, r2, r3, (e3.mono (fun q hq => by unfold off at hq ⊢; omega)).trans r4, r5.trans e4⟩
theorem seBecome_ok {K : Kn} {m : Mem} {a d : Nat} {π : Nat → Nat} {S : Sr} (sa : seS K m a π) (hd : seR K m d S) (hok : srOk S) (had : a + 38 ≤ d ∨ d + 38 ≤ a) : ∃ m', F_X7_become K m a d = some m' ∧ seR K m' a S ∧ eqOn (off a 38) m m' ∧ szm m' = szm m := by
  obtain ⟨ρ, sd, dd⟩ := hd
  obtain ⟨h1, h2, h3, h4, h5, h6, h7⟩ := id dd
  have h16 := hok.2.2.2.2.2.2.2.1
  unfold F_X7_become f_X7_become
  rw [gd_t (Or.inr h1), h1]
  have nad : d ≠ a := by omega
  simp only [bd_e, gI_sI_n (Or.inl nad), h2, h3, h4]
  have e0 : eqOn (fun q => q ≠ a) m (sI (sI (sI (sI m a 6 1) a 4 (nI S.1)) a 3 (nI S.2.2.2.length)) a 5 (iZ S.2.1)) := fun q hq k => by
    have hq : q ≠ a := hq
    exact ⟨by simp only [gI_sI_n (Or.inl hq)], rfl, rfl⟩
  have sa0 : seS K (sI (sI (sI (sI m a 6 1) a 4 (nI S.1)) a 3 (nI S.2.2.2.length)) a 5 (iZ S.2.1)) a π := sa.onR (fun _ _ _ _ => rfl)
  have sd0 := sd.on e0 (fun q g1 g2 => show q ≠ a by omega)
  have dd0 := dd.on h16 sd e0 (fun q g1 g2 => show q ≠ a by omega)
  have g6 : gI (sI (sI (sI (sI m a 6 1) a 4 (nI S.1)) a 3 (nI S.2.2.2.length)) a 5 (iZ S.2.1)) a 6 = 1 := by simp [gI_sIa]
  have g4 : gI (sI (sI (sI (sI m a 6 1) a 4 (nI S.1)) a 3 (nI S.2.2.2.length)) a 5 (iZ S.2.1)) a 4 = nI S.1 := by simp [gI_sIa]
  have g3 : gI (sI (sI (sI (sI m a 6 1) a 4 (nI S.1)) a 3 (nI S.2.2.2.length)) a 5 (iZ S.2.1)) a 3 = nI S.2.2.2.length := by simp [gI_sIa]
  have g5 : gI (sI (sI (sI (sI m a 6 1) a 4 (nI S.1)) a 3 (nI S.2.2.2.length)) a 5 (iZ S.2.1)) a 5 = iZ S.2.1 := by simp [gI_sIa]
  have z0 : szm (sI (sI (sI (sI m a 6 1) a 4 (nI S.1)) a 3 (nI S.2.2.2.length)) a 5 (iZ S.2.1)) = szm m := rfl
  generalize sI (sI (sI (sI m a 6 1) a 4 (nI S.1)) a 3 (nI S.2.2.2.length)) a 5 (iZ S.2.1) = m0 at e0 sa0 sd0 dd0 g6 g4 g3 g5 z0 ⊢
  rw [ldO_n sa0.2.2.1 sa0.1.2.2.1, bind_e, ldO_n sd0.2.2.1 sd0.1.2.2.1, bind_e]
  obtain ⟨m1, p1, p2, p3, p4⟩ := ptBecome_ok (x := a + 2) (y := d + 2) ⟨by unfold off; omega, by unfold off; omega, by unfold off; omega⟩ dd0.2.2.2.2.1 ⟨sa0.2.2.2.2.1, sa0.2.2.2.2.2.1, sa0.1.2.2.1, sa0.1.2.2.2.1, sa0.1.2.2.2.2.1, by omega⟩
  rw [p1, bind_e]
  have sa1 : seS K m1 a π := seS_late sa0 p3 p2.1 p2.2.1
  have in1 : insr d 38 (off (a + 2) 3) := fun q g1 g2 => by unfold off; omega
  have sd1 := sd0.on p3 in1
  have dd1 := dd0.on h16 sd0 p3 in1
  rw [ldO_n sa1.2.2.2.1 sa1.1.2.2.2.2.2.1, bind_e, ldO_n sd1.2.2.2.1 sd1.1.2.2.2.2.2.1, bind_e]
  -- the coder
  have hcod : ∃ m2, F_X1_become K m1 (a + 5) (d + 5) = some m2 ∧ eqOn (offc (a + 5)) m1 m2 ∧ szm m2 = szm m1 ∧ ∀ c, coR m1 (d + 5) c → coR m2 (a + 5) c := by
    unfold F_X1_become f_X1_become
    simp only [bd_e]
    have nd : d + 5 ≠ a + 5 := by omega
    refine ⟨_, rfl, fun q hq k => ?_, rfl, fun c hc => ?_⟩
    · have hq : q ≠ a + 5 := hq
      exact ⟨by simp only [gI_sI_n (Or.inl hq), gI_sJ], by simp only [gJ_sI, gJ_sJ_n (Or.inl hq)], rfl⟩
    · obtain ⟨c0, c1, c2, c3⟩ := hc
      unfold coR
      simp only [gI_sIa, gI_sJ, gJ_sI, gJ_sJa, gI_sI_n (Or.inl nd), gJ_sJ_n (Or.inl nd)]
      exact ⟨c0, c1, c2, c3⟩
  obtain ⟨m2, c1, c2, c3, c4⟩ := hcod
  rw [c1, bind_e]
  have sa2 : seS K m2 a π := sa1.on' c2 (show a ≠ a + 5 by omega) (show a + 1 ≠ a + 5 by omega) (show a + 2 ≠ a + 5 by omega) (fun j hj => show a + 6 + 2 * j ≠ a + 5 by omega)
  have in2 : insr d 38 (offc (a + 5)) := fun q g1 g2 => show q ≠ a + 5 by omega
  have sd2 := sd1.on c2 in2
  have dd2 := dd1.on h16 sd1 c2 in2
  have G : ∀ k, gI m2 a k = gI m0 a k := fun k => (c2.I (show a ≠ a + 5 by omega)).trans (p3.I (by unfold off; omega))
  obtain ⟨m3, b1, b2, b3, b4, b5⟩ := seBecL (a := a) (d := d) (fun b hb => (hok.2.2.2.2.2.2.2.2.1 b hb).1) h16 had FU 0 m2 (Nat.zero_le _) (by rw [FU_e]; omega) sa2 sd2 ((G 3).trans g3) dd2.2.2.2.2.2.1 (fun k b hk => by simp at hk)
  have pa : off (a + 6) 32 a := by unfold off; omega
  refine ⟨m3, b1, ⟨π, b2, ⟨(b4.I pa).trans ((G 6).trans g6), (b4.I pa).trans ((G 4).trans g4), (b4.I pa).trans ((G 5).trans g5), (b4.I pa).trans ((G 3).trans g3), ?_, b3, fun b p c l k1 k2 k3 => ?_⟩⟩, ?_, b5.trans (c3.trans (p4.trans z0))⟩
  · exact (p2.on c2 (show a + 2 ≠ a + 5 by omega) (show a + 2 + 1 ≠ a + 5 by omega) (show a + 2 + 2 ≠ a + 5 by omega)).on b4 (by unfold off; omega) (by unfold off; omega) (by unfold off; omega)
  · exact (c4 c (dd1.2.2.2.2.2.2 b p c l k1 k2 k3)).on b4 (by unfold off; omega)
  · refine ((e0.mono (fun q hq => ?_)).trans (p3.mono (fun q hq => ?_))).trans ((c2.mono (fun q hq => ?_)).trans (b4.mono (fun q hq => ?_)))
    · show q ≠ a; unfold off at hq; omega
    · unfold off at hq ⊢; omega
    · show q ≠ a + 5; unfold off at hq; omega
    · unfold off at hq ⊢; omega
/-- a sealed block comes behind all -/
def takeS (S : Sr) (b : Bk) : Option Sr := if 16 ≤ S.2.2.2.length then none else some (S.1, (b.2.2.2.2 : Int), S.2.2.1, clL S.2.2.2 ++ [b])
theorem takeS_ok {S S' : Sr} (h : srOk S) {b : Bk} (hb : bkOk b) (hse : b.2.2.1 = true) (hlt : S.2.1 < (b.2.2.2.1 : Int)) (e : takeS S b = some S') : srOk S' := by
  obtain ⟨h1, h2, h3, h4, h5, h6, h7, h8, h9, h10⟩ := h
  unfold takeS at e
  split at e
  · cases e
  · rename_i c
    cases e
    obtain ⟨g1, g2⟩ := clL_ok h9 h10
    have gl := clL_len S.2.2.2
    have b1 := hb.2.2.2.2.2.1
    have b2 := hb.2.2.2.2.2.2
    refine ⟨h1, h2, by show -1 ≤ (b.2.2.2.2 : Int); omega, by show (b.2.2.2.2 : Int) ≤ _; omega, h5, h6, fun q hq => ?_, ?_, fun x hx => ?_, ?_⟩
    · have := h7 q hq; show (q.1 : Int) ≤ b.2.2.2.2; omega
    · show (clL S.2.2.2 ++ [b]).length ≤ 16; simp; omega
    · rcases List.mem_append.mp hx with hx | hx
      · have := g1 x hx; exact ⟨this.1, by show (x.2.2.2.2 : Int) ≤ b.2.2.2.2; omega⟩
      · rw [List.mem_singleton.mp hx]; exact ⟨hb, Int.le_refl _⟩
    · refine List.pairwise_append.mpr ⟨g2, List.pairwise_singleton _ _, fun x hx y hy => ?_⟩
      rw [List.mem_singleton.mp hy]
      have := g1 x hx
      exact ⟨this.2.2, by omega⟩
theorem take_ok' {K : Kn} {m : Mem} {a t : Nat} {S : Sr} {b : Bk} (h : seR K m a S) (hok : srOk S) (hb : bkR K m t b) (hbo : bkOk b) (hse : b.2.2.1 = true) (hat : a + 38 ≤ t ∨ t + 2 ≤ a) :
    (takeS S b = none → ∃ m', F_X7_take K m a t = some (-4, m') ∧ seR K m' a S ∧ eqOn (off a 38) m m' ∧ szm m' = szm m) ∧
    (∀ S', takeS S b = some S' → ∃ m', F_X7_take K m a t = some (nI (S'.2.2.2.length - 1), m') ∧ seR K m' a S' ∧ eqOn (off a 38) m m' ∧ szm m' = szm m) := by
  obtain ⟨π, hs, hd⟩ := h
  have h16 := hok.2.2.2.2.2.2.2.1
  unfold F_X7_take f_X7_take takeS
  rw [hd.2.2.2.1]
  by_cases c : 16 ≤ S.2.2.2.length
  · rw [if_pos c, if_neg (show ¬ nI S.2.2.2.length < (16 : Int32) from fun z => by rw [show (16 : Int32) = nI 16 from rfl, nI_ltI (by omega) (by omega)] at z; omega)]
    exact ⟨fun _ => ⟨m, rfl, ⟨π, hs, hd⟩, eqOn.refl m, rfl⟩, fun S' e => by cases e⟩
  · rw [if_neg c, if_pos (show nI S.2.2.2.length < (16 : Int32) from (nI_ltI (b := 16) (by omega) (by omega)).mpr (by omega))]
    refine ⟨fun e => (by cases e), fun S' e => ?_⟩
    cases e
    obtain ⟨m1, e1, b1, f1, s1, z1⟩ := closeOpen_ok hs hd hok
    have gl := clL_len S.2.2.2
    have pa : off (a + 6) 32 a := by unfold off; omega
    obtain ⟨x1, x2⟩ := s1.blk (k := S.2.2.2.length) (by omega)
    have hπ := s1.2.2.2.2.2.2.1 S.2.2.2.length (by omega)
    rw [e1, bind_e, x1, bind_e, f1.I pa, hd.2.2.2.1, x2, bind_e]
    have hb1 := hb.on f1 (show off (a + 6) 32 t by unfold off; omega) (show off (a + 6) 32 (t + 1) by unfold off; omega)
    obtain ⟨m2, e2, b2, f2, z2⟩ := become_bk hb1 hbo.2.2.1 (s1.2.2.2.2.2.2.2.2 _ hπ.1) (s1.1.2.2.2.2.2.2 _ hπ.1).1 (s1.1.2.2.2.2.2.2 _ hπ.1).2 (show off (a + 6 + 2 * π S.2.2.2.length) 2 t by unfold off; omega) (show off (a + 6 + 2 * π S.2.2.2.length) 2 (t + 1) by unfold off; omega)
    rw [e2, bind_e]
    have s2 := seS_blk s1 hπ.1 f2 b2.1
    have B2 : seB K m2 a π (clL S.2.2.2 ++ [b]) := by
      rw [← gl] at f2 b2
      exact seB_snoc s1 (by omega) b1 f2 b2
    have F : eqOn (off (a + 6) 32) m m2 := f1.trans (f2.mono (fun q z => by unfold off at z ⊢; omega))
    have G : ∀ k, gI m2 a k = gI m a k := fun k => F.I pa
    simp only [bd_e]
    rw [G, hd.2.2.2.1, nI_1]
    have ht5 : gI (sI m2 a 3 (nI (S.2.2.2.length + 1))) t 5 = nI b.2.2.2.2 := by
      rw [gI_sI_n (Or.inl (by omega)), F.I (by unfold off; omega)]
      exact hb.2.2.2.2.2.2.1
    rw [ht5, gI_sI_n (Or.inr (by decide)), gI_sI_s, show nI (S.2.2.2.length + 1) - (1 : Int32) = nI S.2.2.2.length from nI_pred _]
    have e5 : eqOn (fun q => q ≠ a) m2 (sI (sI m2 a 3 (nI (S.2.2.2.length + 1))) a 5 (nI b.2.2.2.2)) := fun q hq k => ⟨by have hq : q ≠ a := hq; rw [gI_sI_n (Or.inl hq), gI_sI_n (Or.inl hq)], rfl, rfl⟩
    have hlen : (clL S.2.2.2 ++ [b]).length = S.2.2.2.length + 1 := by rw [List.length_append, gl]; rfl
    refine ⟨sI (sI m2 a 3 (nI (S.2.2.2.length + 1))) a 5 (nI b.2.2.2.2), by rw [hlen, Nat.add_sub_cancel], ⟨π, s2.onR (fun _ _ _ _ => rfl), ⟨?_, ?_, gI_sI_s, ?_, ?_, ?_, ?_⟩⟩, ?_, z2.trans z1⟩
    · rw [gI_sI_n (Or.inr (by decide)), gI_sI_n (Or.inr (by decide)), G, hd.1]
    · rw [gI_sI_n (Or.inr (by decide)), gI_sI_n (Or.inr (by decide)), G, hd.2.1]
    · rw [gI_sI_n (Or.inr (by decide)), gI_sI_s]
      show _ = nI (clL S.2.2.2 ++ [b]).length
      rw [hlen]
    · exact (hd.2.2.2.2.1.on F (by unfold off; omega) (by unfold off; omega) (by unfold off; omega)).on e5 (show a + 2 ≠ a by omega) (show a + 2 + 1 ≠ a by omega) (show a + 2 + 2 ≠ a by omega)
    · exact seB_on s2 (by rw [hlen]; omega) B2 e5 (fun q g1 g2 => show q ≠ a by omega)
    · intro b' p c' l g1 g2 g3
      rw [List.getLast?_concat] at g1
      cases g1
      rw [hse] at g2; cases g2
    · refine (F.mono (fun q hq => ?_)).trans (e5.mono (fun q hq => ?_))
      · unfold off at hq ⊢; omega
      · show q ≠ a; unfold off at hq; omega
