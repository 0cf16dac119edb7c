/-! ===== packed anew: bytes; rows copied, cleared ===== -/
def packS (o : Option Sr) (q : Pt) : Option Sr := o.bind (fun S => putS S q.1 q.2)
def packL (S : Sr) (l : List Pt) : Option Sr := l.foldl packS (some S)
def packA (room : Nat) (l : List Pt) : Option Sr := packL (room, -1, [], []) l
theorem packS_none (l : List Pt) : l.foldl packS none = none := by
  induction l with
  | nil => rfl
  | cons q l ih => exact ih
theorem packL_cons {S : Sr} {q : Pt} {l : List Pt} : packL S (q :: l) = (putS S q.1 q.2).bind (fun S' => packL S' l) := by
  show l.foldl packS ((some S).bind _) = _
  rw [bind_e]
  cases h : putS S q.1 q.2 with
  | none => exact packS_none l
  | some S' => rfl
def sumB (bl : List Bk) : Nat := (bl.map (fun b => b.2.1)).sum
theorem bysA_e (bl : List Bk) : bysA bl = nI (sumB bl) := by
  have : ∀ (bl : List Bk) (x i : Nat), foldI (fun (x : Int32) _ (b : Bk) => x + nI b.2.1) (nI x) i bl = nI (x + sumB bl) := by
    intro bl
    induction bl with
    | nil => intro x i; rfl
    | cons b bl ih =>
      intro x i
      show foldI _ (nI x + nI b.2.1) (i + 1) bl = _
      rw [nI_add, ih]
      show nI (x + b.2.1 + sumB bl) = nI (x + (b.2.1 + sumB bl))
      rw [Nat.add_assoc]
  have := this bl 0 0
  rw [Nat.zero_add] at this
  exact this
theorem sumB_app (a b : List Bk) : sumB (a ++ b) = sumB a + sumB b := by unfold sumB; simp
theorem srOk_new {room : Nat} (h1 : 24 ≤ room) (h2 : room ≤ 200) : srOk (room, -1, [], []) := ⟨h1, h2, Int.le_refl _, by show (-1 : Int) ≤ _; omega, Nat.zero_le _, List.Pairwise.nil, fun q hq => by simp at hq, Nat.zero_le _, fun b hb => by simp at hb, List.Pairwise.nil⟩
/-- what packing holds on to -/
def pkI (S : Sr) : Prop := srOk S ∧ S.2.2.1 = [] ∧ (S.2.2.2 = [] ∨ ∃ bl0 b p c l, S.2.2.2 = bl0 ++ [b] ∧ b.2.2.1 = false ∧ rsB b = .inr (p, c, l) ∧ b.2.1 = 14 + (p + 7) / 8)
theorem sumB_le {bl : List Bk} (h : ∀ b ∈ bl, bkOk b) : sumB bl ≤ 200 * bl.length := by
  induction bl with
  | nil => simp [sumB]
  | cons b bl ih =>
    have h1 := (h b (by simp)).2.2.1
    have h2 := ih (fun x hx => h x (by simp [hx]))
    show b.2.1 + sumB bl ≤ 200 * (bl.length + 1)
    omega
theorem by_loop {K : Kn} {sc x n : Nat} {l : List Pt} (hs : ∀ q ∈ l, q.1 ≤ 2000000000) (hsrt : srt l) (hx : off x 3 sc) : ∀ (f i : Nat) (m : Mem) (S : Sr) (x3 x4 x5 : Int32), i ≤ l.length → l.length - i < f → ptR K m x n l → pkI S → (∀ q ∈ l.drop i, S.2.1 < (q.1 : Int)) → (S.2.2.2 = [] → x3 = 0 ∧ x4 = 0 ∧ x5 = 0) → (∀ bl0 b p c lp, S.2.2.2 = bl0 ++ [b] → rsB b = .inr (p, c, lp) → x3 = nI (bl0.length + 1) ∧ x4 = nI p ∧ x5 = nI (sumB bl0) ∧ coR m sc c) →
    ∃ m', f_X1_bytesBy_11 K sc x (nI S.1) f m x3 x4 x5 (nI i) = some (match packL S (l.drop i) with
      | none => -4
      | some S' => nI (sumB S'.2.2.2), m') ∧ eqOn (offc sc) m m' ∧ szm m' = szm m
  | 0, _, _, _, _, _, _, _, h, _, _, _, _, _ => absurd h (Nat.not_lt_zero _)
  | f + 1, i, m, S, x3, x4, x5, hi, hf, hp, hS, hlt, h0, h1 => by
    have hl := pt_len hp
    have nx := off3 hx
    obtain ⟨hok, hlate, hbl⟩ := id hS
    have h16 := hok.2.2.2.2.2.2.2.1
    have hr := hok.2.1
    have unf : f_X1_bytesBy_11 K sc x (nI S.1) (f + 1) m x3 x4 x5 (nI i) = f_X1_bytesBy_11B K sc x (nI S.1) (f_X1_bytesBy_11 K sc x (nI S.1) f) m x3 x4 x5 (nI i) := rfl
    rw [unf]
    unfold f_X1_bytesBy_11B
    by_cases c : l.length ≤ i
    · rw [if_pos (pt_end hp c (by omega)), List.drop_eq_nil_of_le c]
      show ∃ m', _ = some (nI (sumB S.2.2.2), m') ∧ _
      rcases hbl with hb | ⟨bl0, b, p, c', lp, hb, hbo, hbr, hbs⟩
      · obtain ⟨rfl, rfl, rfl⟩ := h0 hb
        rw [if_pos (by decide), hb]
        exact ⟨m, rfl, eqOn.refl m, rfl⟩
      · obtain ⟨rfl, rfl, rfl, hco⟩ := h1 bl0 b p c' lp hb hbr
        have hbm := (hok.2.2.2.2.2.2.2.2.1 b (by rw [hb]; simp)).1
        have hfa := rs_facts hbm hbr
        have hlen : S.2.2.2.length = bl0.length + 1 := by rw [hb]; simp
        rw [if_neg (nI_nle (by omega) (by omega)), openBytes_ok (by omega), bind_e, nI_add, hb, sumB_app]
        refine ⟨m, ?_, eqOn.refl m, rfl⟩
        rw [show sumB [b] = b.2.1 by simp [sumB], hbs]
    · obtain ⟨q, hq⟩ := get_some (l := l) (i := i) (by omega)
      have hq2 := hs q (List.mem_of_getElem? hq)
      obtain ⟨c1, e1, e2, e3, e4⟩ := pt_at hp hq
      have hd := drop_get hq
      have hqlt := hlt q (by rw [hd]; simp)
      have hsd := srt_drop hsrt i
      rw [hd] at hsd
      have hnext : ∀ z ∈ l.drop (i + 1), (q.1 : Int) < (z.1 : Int) := fun z hz => by
        have := (List.pairwise_cons.mp hsd).1 z hz; omega
      rw [if_neg c1, hd, packL_cons]
      -- a new block
      have new : ∀ (m1 : Mem) (x5' : Int32), ptR K m1 x n l → eqOn (offc sc) m m1 → szm m1 = szm m → x3 = nI S.2.2.2.length → x5' = nI (sumB (clL S.2.2.2)) → putS S q.1 q.2 = putN S q.1 q.2 → ∃ m', f_X1_bytesBy_82 K sc x (nI S.1) (f_X1_bytesBy_11 K sc x (nI S.1) f) m1 x3 x5' (nI i) = some (match (putS S q.1 q.2).bind (fun S' => packL S' (l.drop (i + 1))) with
          | none => -4
          | some S' => nI (sumB S'.2.2.2), m') ∧ eqOn (offc sc) m m' ∧ szm m' = szm m := by
        intro m1 x5' hp1 f1 z1 hx3 hx5 hput
        obtain ⟨-, g1, g2, g3, g4⟩ := pt_at hp1 hq
        unfold f_X1_bytesBy_82 f_X1_bytesBy_115
        rw [hput, hx3]
        by_cases c16 : 16 ≤ S.2.2.2.length
        · have hpn : putN S q.1 q.2 = none := if_pos c16
          rw [hpn, if_neg (show ¬ nI S.2.2.2.length < (16 : Int32) from fun z => by rw [show (16 : Int32) = nI 16 from rfl, nI_ltI (by omega) (by omega)] at z; omega)]
          exact ⟨m1, rfl, f1, z1⟩
        · have hpn : putN S q.1 q.2 = some (S.1, (q.1 : Int), S.2.2.1, clL S.2.2.2 ++ [nwB q.1 q.2]) := if_neg c16
          rw [if_pos (show nI S.2.2.2.length < (16 : Int32) from (nI_ltI (b := 16) (by omega) (by omega)).mpr (by omega))]
          simp only [bd_e, nI_1]
          rw [g1, bind_e, g3, bind_e, g2, bind_e, g4, bind_e]
          obtain ⟨m2, b1, b2, b3, b4⟩ := begin_ok (K := K) (m := m1) (c := sc) (t := q.1) (v := q.2)
          rw [b1, bind_e, hpn, bind_e]
          have hok' := putS_ok hok hqlt hq2 (hput.trans hpn)
          obtain ⟨m3, r1, r2, r3⟩ := by_loop hs hsrt hx f (i + 1) m2 (S.1, (q.1 : Int), S.2.2.1, clL S.2.2.2 ++ [nwB q.1 q.2]) (nI (S.2.2.2.length + 1)) 0 x5' (by omega) (by omega) (hp1.on b3 (Ne.symm nx.1) (Ne.symm nx.2.1) (Ne.symm nx.2.2)) ⟨hok'.1, hlate, Or.inr ⟨clL S.2.2.2, nwB q.1 q.2, 0, _, _, rfl, rfl, opn_rs rfl (nwB_opn hq2 q.2), rfl⟩⟩ hnext (fun z => by simp at z) (fun bl0 b p c' lp hb hbr => by
            have hb : clL S.2.2.2 ++ [nwB q.1 q.2] = bl0 ++ [b] := hb
            obtain ⟨hb1, hb2⟩ := List.append_inj' hb rfl
            cases hb2
            rw [opn_rs rfl (nwB_opn hq2 q.2)] at hbr
            cases hbr
            rw [← hb1, clL_len]
            exact ⟨rfl, rfl, hx5, b2⟩)
          exact ⟨m3, r1, (f1.trans b3).trans r2, r3.trans (b4.trans z1)⟩
      rcases hbl with hb | ⟨bl0, b, p, c', lp, hb, hbo, hbr, hbs⟩
      · obtain ⟨rfl, rfl, rfl⟩ := h0 hb
        rw [if_pos (by decide)]
        exact new m 0 hp (eqOn.refl m) rfl (by rw [hb]; rfl) (by rw [hb]; rfl) (by unfold putS; rw [hb]; rfl)
      · obtain ⟨rfl, rfl, rfl, hco⟩ := h1 bl0 b p c' lp hb hbr
        have hbm := hok.2.2.2.2.2.2.2.2.1 b (by rw [hb]; simp)
        have hfa := rs_facts hbm.1 hbr
        have hlen : S.2.2.2.length = bl0.length + 1 := by rw [hb]; simp
        have hs1 : c'.1 < q.1 := by have := hfa.2.2.2.2.2.2.2.2.2.1; have := hbm.2; omega
        have hcl := costA_le hfa.2.2.2.2.1 q.1 q.2
        rw [if_neg (nI_nle (by omega) (by omega)), e1, bind_e, e3, bind_e, e2, bind_e, e4, bind_e, weigh_ok hco hfa.2.2.2.2.1 (by omega) hq2, bind_e]
        have hoff := wg_off m sc c' q.1 q.2
        have hwe := wg_we m sc c' q.1 q.2
        have hco1 := wg_co hco q.1 q.2
        have hz := wg_sz m sc c' q.1 q.2
        generalize wgM m sc c' q.1 q.2 = m1 at hoff hwe hco1 hz ⊢
        rw [hwe.2.2.2.2.2.1, nI_add, sealedBytes_ok (by omega), bind_e]
        have hp1 := hp.on hoff (Ne.symm nx.1) (Ne.symm nx.2.1) (Ne.symm nx.2.2)
        have hopA : opA S.2.2.2 = some (p, c') := by rw [hb, opA_f hbo hbr]
        by_cases cf : 14 + (p + costA c' q.1 q.2 + 7) / 8 + 1 ≤ S.1
        · have hput : putS S q.1 q.2 = some (S.1, (q.1 : Int), S.2.2.1, bl0 ++ [wrB b p c' q.1 q.2]) := by
            unfold putS
            rw [hopA]
            dsimp only
            rw [if_pos (show fitA S.1 p c' q.1 q.2 = true from decide_eq_true cf), hb, List.getLast?_concat]
            dsimp only
            rw [List.dropLast_concat]
          rw [if_neg (fun z => by rw [nI_ltI (by omega) (by omega)] at z; omega), hput, bind_e]
          simp only [bd_e]
          obtain ⟨m2, s1, s2, s3, s4, -, -⟩ := step_ok (K := K) hco1 hwe hfa.2.2.2.2.1 (by omega) hq2
          rw [s1, bind_e]
          unfold f_X1_bytesBy_115
          simp only [bd_e, nI_1]
          have hok' := putS_ok hok hqlt hq2 hput
          have hw := wr_ok (v := q.2) hbm.1 hbo hbr hs1 hq2 (by omega)
          obtain ⟨m3, r1, r2, r3⟩ := by_loop hs hsrt hx f (i + 1) m2 (S.1, (q.1 : Int), S.2.2.1, bl0 ++ [wrB b p c' q.1 q.2]) (nI (bl0.length + 1)) (nI (p + costA c' q.1 q.2)) (nI (sumB bl0)) (by omega) (by omega) (hp1.on s3 (Ne.symm nx.1) (Ne.symm nx.2.1) (Ne.symm nx.2.2)) ⟨hok'.1, hlate, Or.inr ⟨bl0, _, _, _, _, rfl, rfl, hw.2, rfl⟩⟩ hnext (fun z => by simp at z) (fun bl0' b' p' c'' lp' hb' hbr' => by
            have hb' : bl0 ++ [wrB b p c' q.1 q.2] = bl0' ++ [b'] := hb'
            obtain ⟨hb1, hb2⟩ := List.append_inj' hb' rfl
            cases hb2
            rw [hw.2] at hbr'
            cases hbr'
            rw [← hb1]
            exact ⟨rfl, rfl, rfl, s2⟩)
          exact ⟨m3, r1, (hoff.trans s3).trans r2, r3.trans (s4.trans hz)⟩
        · have hput : putS S q.1 q.2 = putN S q.1 q.2 := by
            unfold putS
            rw [hopA]
            dsimp only
            rw [if_neg (show ¬ fitA S.1 p c' q.1 q.2 = true from fun z => cf (of_decide_eq_true z))]
          rw [if_pos ((nI_ltI (by omega) (by omega)).mpr (by omega)), sealedBytes_ok (by omega), bind_e]
          simp only [bd_e]
          rw [nI_add]
          refine new m1 _ hp1 hoff hz (by rw [hlen]) ?_ hput
          rw [hb, clL_f hbo, sumB_app]
          show _ = nI (sumB bl0 + (b.2.1 + 1 + 0))
          rw [hbs]
theorem bytesBy_ok {K : Kn} {m : Mem} {sc x n room : Nat} {l : List Pt} (hp : ptR K m x n l) (hs : ∀ q ∈ l, q.1 ≤ 2000000000) (hsrt : srt l) (hx : off x 3 sc) (h1 : 24 ≤ room) (h2 : room ≤ 200) :
    ∃ m', F_X1_bytesBy K m sc x (nI room) = some (match packA room l with
      | none => -4
      | some S' => nI (sumB S'.2.2.2), m') ∧ eqOn (offc sc) m m' ∧ szm m' = szm m := by
  have := by_loop (K := K) (sc := sc) (n := n) hs hsrt hx FU 0 m (room, -1, [], []) 0 0 0 (Nat.zero_le _) (by rw [FU_e]; have := pt_len hp; omega) hp ⟨srOk_new h1 h2, rfl, Or.inl rfl⟩ (fun q hq => by show (-1 : Int) < q.1; omega) (fun _ => ⟨rfl, rfl, rfl⟩) (fun bl0 b p c lp hb => by simp at hb)
  rw [List.drop_zero] at this
  exact this
