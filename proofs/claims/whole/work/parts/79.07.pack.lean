/-! ===== packed anew by the class ===== -/
theorem RX.spare {K : Kn} {m m' : Mem} {B : Nat} {s : St} (hok : stOk s) (h : RX K m B s) {a : Nat} (ha : gR m B 1 = some a) (e : eqOn (off a 38) m m') (hS : ∃ π, seS K m' a π) : RX K m' B s ∧ eqOn (off B 205) m m' := by
  obtain ⟨h1, h2, h3, h4, sa, a0, h5, h6⟩ := h
  have : a = sa 4 := by have := a0.2.2.2; rw [ha] at this; exact Option.some.inj this
  subst this
  obtain ⟨a1, a2, a3, a4⟩ := a0
  obtain ⟨i, hi, hsa⟩ := a1 4 (by omega)
  have oB : ∀ q, (q < B + 2 ∨ B + 192 ≤ q) → off (sa 4) 38 q := fun q hq => by unfold off; omega
  have ok : ∀ k, k < 5 → k ≠ 4 → insr (sa k) 38 (off (sa 4) 38) := fun k hk hkj q g1 g2 => by
    obtain ⟨i', hi', hsa'⟩ := a1 k hk
    have hne : i' ≠ i := fun z => hkj (a2 k 4 hk (by omega) (by rw [hsa, hsa', z]))
    unfold off; omega
  refine ⟨⟨h1, ?_, ?_, ?_, sa, ⟨a1, a2, fun k hk => (e.R (oB _ (by omega))).trans (a3 k hk), (e.R (oB _ (by omega))).trans a4⟩, fun k hk => (h5 k hk).on (fun S hS => hok.1 k S hS) e (ok k (by omega) (by omega)), hS⟩, e.mono (fun q hq => by unfold off at hq ⊢; omega)⟩
  · obtain ⟨r1, r2, r3, r4, r5, r6, r7, r8⟩ := h2
    have e0 := oB B (by omega)
    exact ⟨(e.R e0).trans r1, (e.R e0).trans r2, (e.R e0).trans r3, (e.R e0).trans r4, (e.R e0).trans r5, (e.R e0).trans r6, (e.R e0).trans r7, (e.R e0).trans r8⟩
  · obtain ⟨c1, c2, c3, c4, c5, c6⟩ := h3
    exact ⟨c1.on e (oB _ (by omega)), c2.on e (oB _ (by omega)), c3.on e (oB _ (by omega)), (e.R (oB _ (by omega))).trans c4, (e.R (oB _ (by omega))).trans c5, (e.R (oB _ (by omega))).trans c6⟩
  · obtain ⟨t1, t2, t3⟩ := h4
    exact ⟨(e.R (oB _ (by omega))).trans t1, (e.I (oB _ (by omega))).trans t2, fun i hi => (e.I (oB _ (by omega))).trans (t3 i hi)⟩
theorem RX.sp {K : Kn} {m : Mem} {B : Nat} {s : St} (h : RX K m B s) : ∃ a π i, gR m B 1 = some a ∧ seS K m a π ∧ i < 5 ∧ a = B + 2 + 38 * i ∧ K a = some (.inl 6) := by
  obtain ⟨h1, h2, h3, h4, sa, a0, h5, π, h6⟩ := h
  obtain ⟨i, hi, hsa⟩ := a0.1 4 (by omega)
  exact ⟨sa 4, π, i, a0.2.2.2, h6, hi, hsa, h6.1.1⟩
/-- the spare one takes a slot -/
theorem useSpare_ok {K : Kn} {m : Mem} {B : Nat} {s : St} (hok : stOk s) (h : RX K m B s) {a : Nat} (ha : gR m B 1 = some a) {S : Sr} (hS : seR K m a S) (hSo : srOk S) {j : Nat} (hj : j < 4) : ∃ m', F_X8_useSpare K m B (nI j) = some (nI S.2.2.2.length, m') ∧ RX K m' B (upS s j S) ∧ eqOn (off B 2) m m' ∧ szm m' = szm m := by
  obtain ⟨h1, h2, h3, h4, sa, a0, h5, π6, h6⟩ := h
  have : a = sa 4 := by have := a0.2.2.2; rw [ha] at this; exact Option.some.inj this
  subst this
  have hsl := slot_at (s := s) h1 h2 a0 hj
  obtain ⟨a1, a2, a3, a4⟩ := id a0
  obtain ⟨i4, hi4, hs4⟩ := a1 4 (by omega)
  obtain ⟨ij, hij, hsj⟩ := a1 j (by omega)
  have hK4 : K (sa 4) = some (.inl 6) := by rw [hs4]; exact (h1.2.2.1 i4 hi4).1
  unfold F_X8_useSpare f_X8_useSpare
  rw [hsl.1, bind_e, hsl.2, bind_e, bind_e, ldO_n a4 hK4, bind_e, asO_n (lenK_of h1.2.1) hj (by omega), bind_e]
  simp only [bd_e]
  have r0 : gR (sR (sR m (B + 1) j (some (sa 4))) B 1 (some (sa j))) B 0 = some (B + 1) := by
    rw [gR_sRa, if_neg (by decide), gR_sR_n (Or.inl (by omega))]; exact h2.1
  have rj : gR (sR (sR m (B + 1) j (some (sa 4))) B 1 (some (sa j))) (B + 1) j = some (sa 4) := by
    rw [gR_sR_n (Or.inl (by omega)), gR_sR_s]
  rw [ldA_n r0 h1.2.1, bind_e, alO_n (lenK_of h1.2.1) hj (by omega) rj hK4, bind_e]
  have E : eqOn (off B 2) m (sR (sR m (B + 1) j (some (sa 4))) B 1 (some (sa j))) := fun q hq k => by
    have := off2 hq
    exact ⟨rfl, rfl, by rw [gR_sR_n (Or.inl this.1), gR_sR_n (Or.inl this.2)]⟩
  have gl : gI (sR (sR m (B + 1) j (some (sa 4))) B 1 (some (sa j))) (sa 4) 3 = nI S.2.2.2.length := by
    obtain ⟨π, -, d⟩ := hS
    exact d.2.2.2.1
  rw [gl]
  have oB : ∀ q, B + 2 ≤ q → off B 2 q := fun q hq => by unfold off; omega
  have ok : ∀ k, k < 5 → insr (sa k) 38 (off B 2) := fun k hk q g1 g2 => by
    obtain ⟨i', hi', hsa'⟩ := a1 k hk
    unfold off; omega
  refine ⟨_, rfl, ⟨h1, ?_, ?_, ?_, fun k => if k = j then sa 4 else if k = 4 then sa j else sa k, ⟨fun k hk => ?_, fun k k' hk hk' hkk => ?_, fun k hk => ?_, ?_⟩, fun k hk => ?_, ?_⟩, E, rfl⟩
  · obtain ⟨r1, r2, r3, r4, r5, r6, r7, r8⟩ := h2
    refine ⟨r0, ?_, ?_, ?_, ?_, ?_, ?_, ?_⟩ <;> rw [gR_sRa, if_neg (by decide), gR_sR_n (Or.inl (by omega))] <;> assumption
  · obtain ⟨c1, c2, c3, c4, c5, c6⟩ := h3
    exact ⟨c1.on E (oB _ (by omega)), c2.on E (oB _ (by omega)), c3.on E (oB _ (by omega)), (E.R (oB _ (by omega))).trans c4, (E.R (oB _ (by omega))).trans c5, (E.R (oB _ (by omega))).trans c6⟩
  · obtain ⟨t1, t2, t3⟩ := h4
    exact ⟨(E.R (oB _ (by omega))).trans t1, (E.I (oB _ (by omega))).trans t2, fun i hi => (E.I (oB _ (by omega))).trans (t3 i hi)⟩
  · dsimp only
    split
    · exact a1 4 (by omega)
    split
    · exact a1 j (by omega)
    · exact a1 k hk
  · dsimp only at hkk
    by_cases c1 : k = j
    · rw [if_pos c1] at hkk
      by_cases c2 : k' = j
      · omega
      · rw [if_neg c2] at hkk
        by_cases c3 : k' = 4
        · rw [if_pos c3] at hkk
          have := a2 4 j (by omega) (by omega) hkk; omega
        · rw [if_neg c3] at hkk
          have := a2 4 k' (by omega) hk' hkk; omega
    · rw [if_neg c1] at hkk
      by_cases c4 : k = 4
      · rw [if_pos c4] at hkk
        by_cases c2 : k' = j
        · rw [if_pos c2] at hkk
          have := a2 j 4 (by omega) (by omega) hkk; omega
        · rw [if_neg c2] at hkk
          by_cases c3 : k' = 4
          · omega
          · rw [if_neg c3] at hkk
            have := a2 j k' (by omega) hk' hkk; omega
      · rw [if_neg c4] at hkk
        by_cases c2 : k' = j
        · rw [if_pos c2] at hkk
          have := a2 k 4 hk (by omega) hkk; omega
        · rw [if_neg c2] at hkk
          by_cases c3 : k' = 4
          · rw [if_pos c3] at hkk
            have := a2 k j hk (by omega) hkk; omega
          · rw [if_neg c3] at hkk
            exact a2 k k' hk hk' hkk
  · dsimp only
    rw [gR_sR_n (Or.inl (by omega)), gR_sRa]
    by_cases c : k = j
    · rw [if_pos c, if_pos c]
    · rw [if_neg c, if_neg c, if_neg (by omega), a3 k hk]
  · dsimp only
    rw [gR_sR_s, if_neg (by omega), if_pos rfl]
  · dsimp only
    unfold upS
    dsimp only
    by_cases c : k = j
    · rw [if_pos c, if_pos c]
      exact seR.on hSo.2.2.2.2.2.2.2.1 hS E (ok 4 (by omega))
    · rw [if_neg c, if_neg c, if_neg (by omega)]
      exact (h5 k hk).on (fun S hS => hok.1 k S hS) E (ok k (by omega))
  · dsimp only
    rw [if_neg (by omega), if_pos rfl]
    have := h5 j hj
    cases hsjj : s.1 j with
    | none => rw [hsjj] at this; obtain ⟨π, q⟩ := this.1; exact ⟨π, q.on E (ok j (by omega))⟩
    | some S' => rw [hsjj] at this; obtain ⟨π, q, -⟩ := this; exact ⟨π, q.on E (ok j (by omega))⟩
theorem putS_pos {S S' : Sr} (hok : srOk S) {t : Nat} {v : Int64} (ht1 : S.2.1 < t) (ht : t ≤ 2000000000) (e : putS S t v = some S') : S'.2.1 = t ∧ srOk S' ∧ S'.2.2.1 = S.2.2.1 ∧ S'.1 = S.1 := by
  have := putS_ok hok ht1 ht e
  exact ⟨this.2.1, this.1, this.2.2.2.1, this.2.2.1⟩
theorem packL_ok : ∀ {l : List Pt} {S S' : Sr}, srOk S → srt l → (∀ q ∈ l, q.1 ≤ 2000000000) → (∀ q ∈ l, S.2.1 < (q.1 : Int)) → packL S l = some S' → srOk S' ∧ S'.2.2.1 = S.2.2.1 ∧ S'.1 = S.1 ∧ S'.2.1 = (match l.getLast? with
    | none => S.2.1
    | some q => (q.1 : Int))
  | [], S, S', h, _, _, _, e => by cases e; exact ⟨h, rfl, rfl, rfl⟩
  | q :: l, S, S', h, hs, h2, h3, e => by
    rw [packL_cons] at e
    cases hp : putS S q.1 q.2 with
    | none => rw [hp] at e; cases e
    | some S1 =>
      rw [hp, bind_e] at e
      obtain ⟨p1, p2, p3, p4⟩ := putS_pos h (h3 q (by simp)) (h2 q (by simp)) hp
      have hsp := List.pairwise_cons.mp hs
      obtain ⟨r1, r2, r3, r4⟩ := packL_ok p2 hsp.2 (fun x hx => h2 x (by simp [hx])) (fun x hx => by rw [p1]; have := hsp.1 x hx; omega) e
      refine ⟨r1, r2.trans p3, r3.trans p4, ?_⟩
      rw [r4]
      cases l with
      | nil => simpa using p1
      | cons y l' =>
        rw [List.getLast?_cons_cons]
        cases hg : (y :: l').getLast? with
        | none => simp at hg
        | some z => rfl
theorem pm_loop {K : Kn} {B j : Nat} {s : St} {l : List Pt} {x2 : Int32} (hok : stOk s) (hj : j < 4) (hsrt : srt l) (hs : ∀ q ∈ l, q.1 ≤ 2000000000) {a i5 : Nat} (ha5 : i5 < 5 ∧ a = B + 2 + 38 * i5) : ∀ (f i : Nat) (m : Mem) (S : Sr), i ≤ l.length → l.length - i < f → RX K m B s → gR m B 1 = some a → seR K m a S → srOk S → (∀ q ∈ l.drop i, S.2.1 < (q.1 : Int)) → ptR K m (B + 192) 11812 l →
    ∃ m', f_X8_packMine_10 K B (nI j) x2 f m (nI i) = some ((match packL S (l.drop i) with
      | none => (-4 : Int32)
      | some S' => nI S'.2.2.2.length), m') ∧ RX K m' B (match packL S (l.drop i) with
      | none => s
      | some S' => upS s j S') ∧ eqOn (off B 205) m m' ∧ szm m' = szm m
  | 0, _, _, _, _, h, _, _, _, _, _, _ => absurd h (Nat.not_lt_zero _)
  | f + 1, i, m, S, hi, hf, h, ha, hS, hSo, hlt, hp => by
    have hl := pt_len hp
    have unf : f_X8_packMine_10 K B (nI j) x2 (f + 1) m (nI i) = f_X8_packMine_10B K B (nI j) x2 (f_X8_packMine_10 K B (nI j) x2 f) m (nI i) := rfl
    rw [unf]
    unfold f_X8_packMine_10B
    simp only [mine_o h, bind_e]
    by_cases c : l.length ≤ i
    · rw [if_pos (pt_end hp c (by omega)), List.drop_eq_nil_of_le c]
      obtain ⟨m', e1, e2, e3, e4⟩ := useSpare_ok hok h ha hS hSo hj
      rw [e1, bind_e]
      exact ⟨m', rfl, e2, e3.mono (fun q hq => by unfold off at hq ⊢; omega), e4⟩
    · obtain ⟨q, hq⟩ := get_some (l := l) (i := i) (by omega)
      have hq2 := hs q (List.mem_of_getElem? hq)
      obtain ⟨c1, e1, e2, e3, e4⟩ := pt_at hp hq
      have hd := drop_get hq
      have hqlt := hlt q (by rw [hd]; simp)
      have hsd := srt_drop hsrt i
      rw [hd] at hsd
      rw [if_neg c1, hd, packL_cons]
      have hKa : K a = some (.inl 6) := by obtain ⟨π, q, -⟩ := hS; exact q.1.1
      rw [ldO_n ha hKa]
      simp only [e1, e2, e3, e4, bind_e]
      obtain ⟨pN, pS⟩ := put_ok (v := q.2) hS hSo hqlt hq2
      cases hput : putS S q.1 q.2 with
      | none =>
        obtain ⟨m1, f1, f2, f3, f4⟩ := pN hput
        rw [f1, bind_e]
        dsimp only
        rw [if_neg (by decide)]
        obtain ⟨π, f2', -⟩ := f2
        obtain ⟨g1, g2⟩ := h.spare hok ha f3 ⟨π, f2'⟩
        exact ⟨m1, rfl, g1, g2, f4⟩
      | some S1 =>
        obtain ⟨m1, f1, f2, f3, f4⟩ := pS S1 hput
        obtain ⟨p1, p2, -, -⟩ := putS_pos hSo hqlt hq2 hput
        rw [f1, bind_e]
        dsimp only
        have h16 := p2.2.2.2.2.2.2.2.1
        rw [if_pos (nI_pos' (by omega))]
        simp only [bd_e, nI_1]
        have f2'' := f2
        obtain ⟨π, f2', -⟩ := f2
        obtain ⟨g1, g2⟩ := h.spare hok ha f3 ⟨π, f2'⟩
        have oB : ∀ q, (q < B + 2 ∨ B + 192 ≤ q) → off a 38 q := fun q hq => by unfold off; omega
        obtain ⟨m2, r1, r2, r3, r4⟩ := pm_loop (x2 := x2) hok hj hsrt hs ha5 f (i + 1) m1 S1 (by omega) (by omega) g1 ((f3.R (oB B (by omega))).trans ha) f2'' p2 (fun z hz => by rw [p1]; have := (List.pairwise_cons.mp hsd).1 z hz; omega) (hp.on f3 (oB _ (by omega)) (oB _ (by omega)) (oB _ (by omega)))
        exact ⟨m2, r1, r2, g2.trans r3, r4.trans f4⟩
theorem packMine_ok {K : Kn} {m : Mem} {B j r : Nat} {s : St} {l : List Pt} (hok : stOk s) (h : RX K m B s) (hj : j < 4) (hr1 : 24 ≤ r) (hr2 : r ≤ 200) (hsrt : srt l) (hs : ∀ q ∈ l, q.1 ≤ 2000000000) (hp : ptR K m (B + 192) 11812 l) :
    ∃ m', F_X8_packMine K m B (nI j) (nI r) = some ((match packA r l with
      | none => (-4 : Int32)
      | some S' => nI S'.2.2.2.length), m') ∧ RX K m' B (match packA r l with
      | none => s
      | some S' => upS s j S') ∧ eqOn (off B 205) m m' ∧ szm m' = szm m := by
  obtain ⟨a, π, i, ha, hsp, hi, hai, hKa⟩ := h.sp
  unfold F_X8_packMine f_X8_packMine
  rw [ldO_n ha hKa, bind_e]
  obtain ⟨m1, f1, f2, f3, f4, f5⟩ := start_ok (room := r) hsp
  rw [f1, bind_e]
  obtain ⟨g1, g2⟩ := h.spare hok ha f4 ⟨π, f2⟩
  have oB : ∀ q, (q < B + 2 ∨ B + 192 ≤ q) → off a 38 q := fun q hq => by unfold off; omega
  obtain ⟨m2, r1, r2, r3, r4⟩ := pm_loop (x2 := nI r) hok hj hsrt hs ⟨hi, hai⟩ FU 0 m1 (r, -1, [], []) (Nat.zero_le _) (by rw [FU_e]; have := pt_len hp; omega) g1 ((f4.R (oB B (by omega))).trans ha) ⟨π, f2, f3⟩ (srOk_new hr1 hr2) (fun q hq => by show (-1 : Int) < q.1; omega) (hp.on f4 (oB _ (by omega)) (oB _ (by omega)) (oB _ (by omega)))
  rw [List.drop_zero] at r1 r2
  exact ⟨m2, r1, r2, g2.trans r3, r4.trans f5⟩
