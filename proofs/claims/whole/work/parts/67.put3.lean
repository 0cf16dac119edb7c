theorem seS_wg {K : Kn} {m : Mem} {a : Nat} {π : Nat → Nat} (hs : seS K m a π) (c : Cs) (t : Nat) (v : Int64) : seS K (wgM m (a + 5) c t v) a π := hs.onR (fun _ _ _ _ => rfl)
theorem seD_wg {K : Kn} {m : Mem} {a : Nat} {π : Nat → Nat} {S : Sr} (hs : seS K m a π) (h : seD K m a π S) (hl : S.2.2.2.length ≤ 16) {c : Cs} {t : Nat} {v : Int64} (hc : coR m (a + 5) c) : seD K (wgM m (a + 5) c t v) a π S := by
  have e := wg_off m (a + 5) c t v
  obtain ⟨h1, h2, h3, h4, h5, h6, h7⟩ := h
  have pa : offc (a + 5) a := show a ≠ a + 5 by omega
  refine ⟨(e.I pa).trans h1, (e.I pa).trans h2, (e.I pa).trans h3, (e.I pa).trans h4, h5.on e (show a + 2 ≠ a + 5 by omega) (show a + 2 + 1 ≠ a + 5 by omega) (show a + 2 + 2 ≠ a + 5 by omega), fun k b hk => ?_, fun b p' c' l g1 g2 g3 => ?_⟩
  · have hk16 : k < 16 := by have := (List.getElem?_eq_some_iff.mp hk).1; omega
    have := (hs.2.2.2.2.2.2.1 k hk16).1
    exact (h6 k b hk).on e (show _ ≠ a + 5 by omega) (show _ ≠ a + 5 by omega)
  · refine (h7 b p' c' l g1 g2 g3).congr ?_ ?_ ?_ ?_ ?_ <;> unfold wgM <;> simp only [gI_sIa, gI_sJ, gJ_sI, gJ_sJa] <;> rfl
theorem new_ok {K : Kn} {m : Mem} {a : Nat} {π : Nat → Nat} {S : Sr} (hs : seS K m a π) (h : seD K m a π S) (hok : srOk S) {t : Nat} {v : Int64} (ht : t ≤ 2000000000) (hl : S.2.2.2.length < 16) :
    ∃ m', ((F_X7_closeOpen K m a).bind fun q4 =>
      (ldA K q4 a 0 4).bind fun b5 =>
      (alO K q4 b5 (gI q4 a 3) 0).bind fun b6 =>
      (F_X0_begin K q4 b6 (nI t) v).bind fun q7 =>
      (ldO K q7 a 2 1).bind fun b8 =>
      (F_X1_begin K q7 b8 (nI t) v).bind fun q9 =>
      bd (sI q9 a 3 ((gI q9 a 3) + (1 : Int32))) fun m10 =>
      f_X7_put_86 K a (nI t) v m10) = some (nI S.2.2.2.length, m') ∧ seS K m' a π ∧ seD K m' a π (S.1, (t : Int), S.2.2.1, clL S.2.2.2 ++ [nwB t v]) ∧ eqOn (off a 38) m m' ∧ szm m' = szm m := by
  obtain ⟨m1, e1, b1, f1, s1, z1⟩ := closeOpen_ok hs h hok
  obtain ⟨h1, h2, h3, h4, h5, h6, h7⟩ := id h
  have gl := clL_len S.2.2.2
  have pa : off (a + 6) 32 a := by unfold off; omega
  obtain ⟨x1, x2⟩ := s1.blk hl
  have hπ := s1.2.2.2.2.2.2.1 _ hl
  rw [e1, bind_e, x1, bind_e, f1.I pa, h4, x2, bind_e]
  obtain ⟨m2, e2, b2, f2, z2⟩ := begin_bk (v := v) (m := m1) (a := a + 6 + 2 * π S.2.2.2.length) (t := t) (s1.1.2.2.2.2.2.2 _ hπ.1).1 (s1.1.2.2.2.2.2.2 _ hπ.1).2 (s1.2.2.2.2.2.2.2.2 _ hπ.1) ht
  rw [e2, bind_e]
  have s2 := seS_blk s1 hπ.1 f2 b2.1
  have B2 : seB K m2 a π (clL S.2.2.2 ++ [nwB t v]) := by
    rw [← gl] at f2 b2
    exact seB_snoc s1 (by omega) b1 f2 b2
  obtain ⟨m3, e3, c3, f3, z3⟩ := begin_ok (K := K) (m := m2) (c := a + 5) (t := t) (v := v)
  rw [ldO_n s2.2.2.2.1 s2.1.2.2.2.2.2.1, bind_e, e3, bind_e]
  have F : eqOn (fun q => off (a + 6) 32 q ∧ q ≠ a + 5) m m3 := ((f1.mono (fun _ z => z.1)).trans (f2.mono (fun q z => by have := z.1; unfold off at this ⊢; omega))).trans (f3.mono (fun _ z => z.2))
  have G : ∀ k, gI m3 a k = gI m a k := fun k => F.I ⟨pa, by omega⟩
  simp only [bd_e]
  unfold f_X7_put_86
  simp only [bd_e]
  rw [G, h4, nI_1]
  rw [gI_sI_n (Or.inr (by decide)), gI_sI_s, show nI (S.2.2.2.length + 1) - (1 : Int32) = nI S.2.2.2.length from nI_pred _]
  have s3 : seS K m3 a π := by
    refine s2.onR (fun q k _ _ => ?_)
    by_cases c : q = a + 5
    · subst c
      have : m3 = sI (sI (sI (sJ (sI m2 (a + 5) 0 (nI t)) (a + 5) 2 v) (a + 5) 1 0) (a + 5) 3 (-1)) (a + 5) 4 0 := by
        have e3' := e3
        unfold F_X1_begin f_X1_begin at e3'
        simp only [bd_e, Option.some.injEq] at e3'
        exact e3'.symm
      rw [this]; rfl
    · exact f3.R c
  have hsz : szm m3 = szm m := by rw [z3, z2, z1]
  refine ⟨_, rfl, s3.onR (fun _ _ _ _ => rfl), ⟨?_, ?_, gI_sI_s, ?_, ?_, ?_, ?_⟩, ?_, hsz⟩
  · rw [gI_sI_n (Or.inr (by decide)), gI_sI_n (Or.inr (by decide)), G, h1]
  · rw [gI_sI_n (Or.inr (by decide)), gI_sI_n (Or.inr (by decide)), G, h2]
  · rw [gI_sI_n (Or.inr (by decide)), gI_sI_s]
    show _ = nI (clL S.2.2.2 ++ [nwB t v]).length
    rw [List.length_append, gl]; rfl
  · have e5 : eqOn (fun q => q ≠ a) m3 (sI (sI m3 a 3 (nI (S.2.2.2.length + 1))) a 5 (nI t)) := fun q hq k => ⟨by have hq : q ≠ a := hq; rw [gI_sI_n (Or.inl hq), gI_sI_n (Or.inl hq)], rfl, rfl⟩
    exact (h5.on F ⟨by unfold off; omega, by omega⟩ ⟨by unfold off; omega, by omega⟩ ⟨by unfold off; omega, by omega⟩).on e5 (show a + 2 ≠ a by omega) (show a + 2 + 1 ≠ a by omega) (show a + 2 + 2 ≠ a by omega)
  · have B3 := seB_on s2 (by rw [List.length_append, gl]; show S.2.2.2.length + 1 ≤ 16; omega) B2 f3 (fun q g1 g2 => show q ≠ a + 5 by omega)
    have e5 : eqOn (fun q => q ≠ a) m3 (sI (sI m3 a 3 (nI (S.2.2.2.length + 1))) a 5 (nI t)) := fun q hq k => ⟨by have hq : q ≠ a := hq; rw [gI_sI_n (Or.inl hq), gI_sI_n (Or.inl hq)], rfl, rfl⟩
    exact seB_on s3 (by rw [List.length_append, gl]; show S.2.2.2.length + 1 ≤ 16; omega) B3 e5 (fun q g1 g2 => show q ≠ a by omega)
  · intro b p c l g1 g2 g3
    rw [List.getLast?_concat] at g1
    cases g1
    rw [opn_rs rfl (nwB_opn ht v)] at g3
    cases g3
    exact (c3.sI (by omega)).sI (by omega)
  · intro q hq k
    have hq1 : off (a + 6) 32 q ∧ q ≠ a + 5 := by unfold off at hq ⊢; omega
    have hq2 : q ≠ a := by unfold off at hq; omega
    refine ⟨by rw [gI_sI_n (Or.inl hq2), gI_sI_n (Or.inl hq2)]; exact F.I hq1, F.J hq1, F.R hq1⟩
theorem wrt_ok {K : Kn} {m1 : Mem} {a p : Nat} {π : Nat → Nat} {S : Sr} {bl0 : List Bk} {b : Bk} {c : Cs} {l : List PtR} (s1 : seS K m1 a π) (d1 : seD K m1 a π S) (hb : S.2.2.2 = bl0 ++ [b]) (hlen : S.2.2.2.length = bl0.length + 1) (hok : srOk S) (hbm : bkOk b ∧ (b.2.2.2.2 : Int) ≤ S.2.1) (hse : b.2.2.1 = false) (hr : rsB b = .inr (p, c, l)) {t : Nat} {v : Int64} (ht1 : S.2.1 < t) (ht : t ≤ 2000000000) (co1 : coR m1 (a + 5) c) (we1 : weR m1 (a + 5) c t v) (hf : fitA S.1 p c t v = true) :
    ∃ m', ((ldA K m1 a 0 4).bind fun b11 =>
      (alO K m1 b11 ((gI m1 a 3) - (1 : Int32)) 0).bind fun b12 =>
      (ldO K m1 a 2 1).bind fun b13 =>
      (F_X0_write K m1 b12 b13).bind fun q14 =>
      (ldO K q14 a 2 1).bind fun b15 =>
      (F_X1_step K q14 b15).bind fun q16 =>
      f_X7_put_86 K a (nI t) v q16) = some (nI bl0.length, m') ∧ seS K m' a π ∧ seD K m' a π (S.1, (t : Int), S.2.2.1, bl0 ++ [wrB b p c t v]) ∧ eqOn (off a 38) m1 m' ∧ szm m' = szm m1 := by
  have hfa := rs_facts hbm.1 hr
  have hl := hok.2.2.2.2.2.2.2.1
  have hk16 : bl0.length < 16 := by omega
  obtain ⟨x1, x2⟩ := s1.blk hk16
  have hπ := s1.2.2.2.2.2.2.1 _ hk16
  have B1 : seB K m1 a π (bl0 ++ [b]) := by rw [← hb]; exact d1.2.2.2.2.2.1
  rw [x1, bind_e, d1.2.2.2.1, hlen, show nI (bl0.length + 1) - (1 : Int32) = nI bl0.length from nI_pred _, x2, bind_e, ldO_n s1.2.2.2.1 s1.1.2.2.2.2.2.1, bind_e]
  obtain ⟨m2, e2, b2, f2, z2⟩ := write_bk (B1 bl0.length b (get_last bl0 b)) hbm.1 hse hr (show off (a + 6 + 2 * π bl0.length) 2 (a + 5) by unfold off; omega) co1 we1 (by have := hbm.2; omega) ht (fitA_le hok.2.1 hf)
  rw [e2, bind_e]
  have s2 := seS_blk s1 hπ.1 f2 b2.1
  have pc : off (a + 6 + 2 * π bl0.length) 2 (a + 5) := by unfold off; omega
  obtain ⟨m3, e3, c3, f3, z3, -, -⟩ := step_ok (K := K) (co1.on f2 pc) (we1.on f2 pc) hfa.2.2.2.2.1 (by have := hbm.2; omega) ht
  rw [ldO_n s2.2.2.2.1 s2.1.2.2.2.2.2.1, bind_e, e3, bind_e]
  unfold f_X7_put_86
  simp only [bd_e]
  have F : eqOn (fun q => off (a + 6) 32 q ∧ q ≠ a + 5) m1 m3 := (f2.mono (fun q z => by have := z.1; unfold off at this ⊢; omega)).trans (f3.mono (fun _ z => z.2))
  have G : ∀ k, gI m3 a k = gI m1 a k := fun k => F.I ⟨by unfold off; omega, by omega⟩
  rw [gI_sI_n (Or.inr (by decide)), G, d1.2.2.2.1, hlen, show nI (bl0.length + 1) - (1 : Int32) = nI bl0.length from nI_pred _]
  have s3 : seS K m3 a π := by
    refine s2.onR (fun q k _ _ => ?_)
    by_cases c' : q = a + 5
    · subst c'
      have e3' := e3
      unfold F_X1_step f_X1_step at e3'
      simp only [bd_e] at e3'
      split at e3'
      · cases e3'; rfl
      · cases e3'; rfl
    · exact f3.R c'
  have e5 : eqOn (fun q => q ≠ a) m3 (sI m3 a 5 (nI t)) := eqOn_sI (fun z => z rfl)
  have hwl := wr_ok (v := v) hbm.1 hse hr (by have := hbm.2; omega) ht (fitA_le hok.2.1 hf)
  refine ⟨_, rfl, s3.onR (fun _ _ _ _ => rfl), ⟨?_, ?_, gI_sI_s, ?_, ?_, ?_, ?_⟩, ?_, ?_⟩
  · rw [gI_sI_n (Or.inr (by decide)), G, d1.1]
  · rw [gI_sI_n (Or.inr (by decide)), G, d1.2.1]
  · rw [gI_sI_n (Or.inr (by decide)), G, d1.2.2.2.1, hlen]; simp
  · exact (d1.2.2.2.2.1.on F ⟨by unfold off; omega, by omega⟩ ⟨by unfold off; omega, by omega⟩ ⟨by unfold off; omega, by omega⟩).on e5 (show a + 2 ≠ a by omega) (show a + 2 + 1 ≠ a by omega) (show a + 2 + 2 ≠ a by omega)
  · have B2 := seB_snoc s1 hk16 (seB_pre B1) f2 b2
    have B3 := seB_on s2 (by simp; omega) B2 f3 (fun q g1 g2 => show q ≠ a + 5 by omega)
    exact seB_on s3 (by simp; omega) B3 e5 (fun q g1 g2 => show q ≠ a by omega)
  · intro b' p' c' l' g1 g2 g3
    rw [List.getLast?_concat] at g1
    cases g1
    rw [hwl.2] at g3
    cases g3
    exact c3.sI (by omega)
  · intro q hq k
    have hq1 : off (a + 6) 32 q ∧ q ≠ a + 5 := by unfold off at hq ⊢; omega
    have hq2 : q ≠ a := by unfold off at hq; omega
    exact ⟨by rw [gI_sI_n (Or.inl hq2)]; exact F.I hq1, F.J hq1, F.R hq1⟩
  · show szm m3 = szm m1
    rw [z3, z2]
theorem put_ok {K : Kn} {m : Mem} {a : Nat} {S : Sr} (h : seR K m a S) (hok : srOk S) {t : Nat} {v : Int64} (ht1 : S.2.1 < t) (ht : t ≤ 2000000000) :
    (putS S t v = none → ∃ m', F_X7_put K m a (nI t) v = some (-4, m') ∧ seR K m' a S ∧ eqOn (off a 38) m m' ∧ szm m' = szm m) ∧
    (∀ S', putS S t v = some S' → ∃ m', F_X7_put K m a (nI t) v = some (nI (S'.2.2.2.length - 1), m') ∧ seR K m' a S' ∧ eqOn (off a 38) m m' ∧ szm m' = szm m) := by
  obtain ⟨π, hs, hd⟩ := h
  have hfit := fits_ok (v := v) hs hd hok ht1 ht
  have hl := hok.2.2.2.2.2.2.2.1
  unfold F_X7_put f_X7_put
  rw [hfit, bind_e]
  have N : ∀ m1, seS K m1 a π → seD K m1 a π S → eqOn (off a 38) m m1 → szm m1 = szm m → (putN S t v = none → ∃ m', (if gI m1 a 3 < (16 : Int32) then (F_X7_closeOpen K m1 a).bind fun q4 =>
      (ldA K q4 a 0 4).bind fun b5 =>
      (alO K q4 b5 (gI q4 a 3) 0).bind fun b6 =>
      (F_X0_begin K q4 b6 (nI t) v).bind fun q7 =>
      (ldO K q7 a 2 1).bind fun b8 =>
      (F_X1_begin K q7 b8 (nI t) v).bind fun q9 =>
      bd (sI q9 a 3 ((gI q9 a 3) + (1 : Int32))) fun m10 =>
      f_X7_put_86 K a (nI t) v m10 else some (-4, m1)) = some (-4, m') ∧ seR K m' a S ∧ eqOn (off a 38) m m' ∧ szm m' = szm m) ∧ (∀ S', putN S t v = some S' → ∃ m', (if gI m1 a 3 < (16 : Int32) then (F_X7_closeOpen K m1 a).bind fun q4 =>
      (ldA K q4 a 0 4).bind fun b5 =>
      (alO K q4 b5 (gI q4 a 3) 0).bind fun b6 =>
      (F_X0_begin K q4 b6 (nI t) v).bind fun q7 =>
      (ldO K q7 a 2 1).bind fun b8 =>
      (F_X1_begin K q7 b8 (nI t) v).bind fun q9 =>
      bd (sI q9 a 3 ((gI q9 a 3) + (1 : Int32))) fun m10 =>
      f_X7_put_86 K a (nI t) v m10 else some (-4, m1)) = some (nI (S'.2.2.2.length - 1), m') ∧ seR K m' a S' ∧ eqOn (off a 38) m m' ∧ szm m' = szm m) := by
    intro m1 s1 d1 f1 z1
    rw [d1.2.2.2.1, show (16 : Int32) = nI 16 from rfl]
    unfold putN
    by_cases c : 16 ≤ S.2.2.2.length
    · rw [if_pos c, if_neg (fun z => by rw [nI_ltI (by omega) (by omega)] at z; omega)]
      exact ⟨fun _ => ⟨m1, rfl, ⟨π, s1, d1⟩, f1, z1⟩, fun S' e => by cases e⟩
    · rw [if_neg c, if_pos ((nI_ltI (by omega) (by omega)).mpr (by omega))]
      refine ⟨fun e => (by cases e), fun S' e => ?_⟩
      cases e
      obtain ⟨m', e1, e2, e3, e4, e5⟩ := new_ok (v := v) s1 d1 hok ht (by omega)
      refine ⟨m', ?_, ⟨π, e2, e3⟩, f1.trans e4, e5.trans z1⟩
      rw [e1]
      show _ = some (nI ((clL S.2.2.2 ++ [nwB t v]).length - 1), m')
      rw [List.length_append, clL_len]; rfl
  rcases last_cases S.2.2.2 with hb | ⟨bl0, b, hb⟩
  · have ho : opA S.2.2.2 = none := by rw [hb]; rfl
    have hp : putS S t v = putN S t v := by unfold putS; rw [ho]
    rw [ho, hp]
    dsimp only
    rw [if_pos rfl]
    exact N m hs hd (eqOn.refl m) rfl
  · have hlen : S.2.2.2.length = bl0.length + 1 := by rw [hb]; simp
    have hgl : S.2.2.2.getLast? = some b := by rw [hb, List.getLast?_concat]
    have hbm := hok.2.2.2.2.2.2.2.2.1 b (by rw [hb]; simp)
    cases hse : b.2.2.1 with
    | true =>
      have ho : opA S.2.2.2 = none := by rw [hb, opA_t hse]
      have hp : putS S t v = putN S t v := by unfold putS; rw [ho]
      rw [ho, hp]
      dsimp only
      rw [if_pos rfl]
      exact N m hs hd (eqOn.refl m) rfl
    | false =>
      obtain ⟨p, c, l, hr, hop⟩ := ok_open hbm.1 hse
      have hfa := rs_facts hbm.1 hr
      have hco := hd.2.2.2.2.2.2 b p c l hgl hse hr
      have ho : opA S.2.2.2 = some (p, c) := by rw [hb, opA_f hse hr]
      have s1 := seS_wg hs c t v
      have d1 := seD_wg (t := t) (v := v) hs hd hl hco
      have f1 := wg_off m (a + 5) c t v
      have f1' : eqOn (off a 38) m (wgM m (a + 5) c t v) := f1.mono (fun q hq => by show q ≠ a + 5; unfold off at hq; omega)
      have co1 := wg_co hco t v
      have we1 := wg_we m (a + 5) c t v
      have z1 := wg_sz m (a + 5) c t v
      unfold putS
      rw [ho]
      dsimp only
      by_cases hf : fitA S.1 p c t v = true
      · simp only [if_pos hf]
        rw [if_neg (show ¬ (1 : Int32) = 0 by decide), hgl]
        dsimp only
        refine ⟨fun e => (by cases e), fun S' e => ?_⟩
        rw [hb, List.dropLast_concat] at e
        cases e
        obtain ⟨m', e1, e2, e3, e4, e5⟩ := wrt_ok s1 d1 hb hlen hok hbm hse hr ht1 ht co1 we1 hf
        refine ⟨m', ?_, ⟨π, e2, e3⟩, f1'.trans e4, e5.trans z1⟩
        rw [e1]
        simp
      · simp only [if_neg hf, if_true]
        exact N _ s1 d1 f1' z1
