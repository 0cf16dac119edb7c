/-! ===== calls of the class: the tape, damage ===== -/
def i32N (x : Int32) : Nat := x.toBitVec.toNat
theorem i32N_lt (x : Int32) : i32N x < 4294967296 := x.toBitVec.isLt
theorem nI_i32N (x : Int32) : nI (i32N x) = x := Int32.toBitVec_inj.mp (by show BitVec.ofNat 32 _ = _; unfold i32N; simp)
def fedB (n : Nat) (old : Nat → Nat) (a b c d e : Int32) (i : Nat) : Nat := if i < n then old i else i32N (if i - n < 4 then a else if i - n < 8 then b else if i - n < 12 then c else if i - n < 16 then d else e) / 2 ^ (24 - 8 * ((i - n) % 4)) % 256
def nFeed (s : St) (a b c d e : Int32) : Int32 × St := if s.2.2 + 20 ≤ 200 then (nI (s.2.2 + 20), (s.1, fedB s.2.2 s.2.1 a b c d e, s.2.2 + 20)) else (-1, s)
theorem RX.tape {K : Kn} {m m' : Mem} {B : Nat} {s s' : St} (hok : stOk s) (h : RX K m B s) (e : eqOn (off (B + 203) 2) m m') (ht : tpR m' B s') (hs : s'.1 = s.1) : RX K m' B s' ∧ eqOn (off B 205) m m' := by
  obtain ⟨h1, h2, h3, h4, sa, ⟨a1, a2, a3, a4⟩, h5, π, h6⟩ := h
  have ea : ∀ j, j < 5 → insr (sa j) 38 (off (B + 203) 2) := fun j hj q g1 g2 => by
    obtain ⟨i, hi, hsa⟩ := a1 j hj
    unfold off; omega
  have eB : ∀ k, k < 203 → off (B + 203) 2 (B + k) := fun k hk => by unfold off; omega
  refine ⟨⟨h1, ?_, ?_, ht, sa, ⟨a1, a2, fun j hj => (e.R (eB 1 (by omega))).trans (a3 j hj), (e.R (eB 0 (by omega))).trans a4⟩, fun j hj => ?_, π, h6.on e (ea 4 (by omega))⟩, e.mono (fun q hq => by unfold off at hq ⊢; omega)⟩
  · obtain ⟨r1, r2, r3, r4, r5, r6, r7, r8⟩ := h2
    have e0 := eB 0 (by omega)
    exact ⟨(e.R e0).trans r1, (e.R e0).trans r2, (e.R e0).trans r3, (e.R e0).trans r4, (e.R e0).trans r5, (e.R e0).trans r6, (e.R e0).trans r7, (e.R e0).trans r8⟩
  · obtain ⟨c1, c2, c3, c4, c5, c6⟩ := h3
    exact ⟨c1.on e (eB 199 (by omega)), c2.on e (eB 192 (by omega)), c3.on e (eB 195 (by omega)), (e.R (eB 198 (by omega))).trans c4, (e.R (eB 198 (by omega))).trans c5, (e.R (eB 202 (by omega))).trans c6⟩
  · rw [hs]; exact (h5 j hj).on (fun S hS => hok.1 j S hS) e (ea j (by omega))
theorem tape_o {K : Kn} {m : Mem} {B : Nat} {s : St} (h : RX K m B s) : ldO K m B 8 0 = some (B + 203) := ldO_n h.2.1.2.2.2.2.2.2.2 h.1.2.2.2.2.2.2.1
theorem feed_ok {K : Kn} {m : Mem} {B : Nat} {s : St} (hok : stOk s) (h : RX K m B s) (a b c d e : Int32) : okX K m B (F_X8_feed K m B a b c d e) (nFeed s a b c d e).1 (nFeed s a b c d e).2 := by
  have hK : K (B + 203 + 1) = some (.inr (0, 200)) := h.1.2.2.2.2.2.2.2
  have hK0 := h.1.2.2.2.2.2.2.1
  obtain ⟨t1, t2, t3⟩ := h.2.2.2.1
  have hr := h.2.1.2.2.2.2.2.2.2
  have hs200 := hok.2.1
  unfold F_X8_feed f_X8_feed nFeed
  rw [tape_o h, bind_e, t2, show (20 : Int32) = nI 20 from rfl, nI_add]
  by_cases c20 : s.2.2 + 20 ≤ 200
  · rw [if_pos (show nI (s.2.2 + 20) ≤ (200 : Int32) from (nI_leI (b := 200) (by omega) (by omega)).mpr c20), if_pos c20, bind_e]
    have nB : off (B + 203) 2 B := by unfold off; omega
    rw [← nI_i32N a, ← nI_i32N b, ← nI_i32N c, ← nI_i32N d, ← nI_i32N e]
    obtain ⟨m1, e1, n1, a1, b1, k1⟩ := append_ok (a := B + 203) (N := i32N a) (s := s.2.2) hK (i32N_lt a) (by omega) t1 t2
    rw [e1, bind_e, ldO_n ((k1.1.R nB).trans hr) hK0, bind_e]
    obtain ⟨m2, e2, n2, a2, b2, k2⟩ := append_ok (a := B + 203) (N := i32N b) (s := s.2.2 + 4) hK (i32N_lt b) (by omega) ((k1.2.2.1 0).trans t1) n1
    have K2 := k1.trans k2
    rw [e2, bind_e, ldO_n ((K2.1.R nB).trans hr) hK0, bind_e]
    obtain ⟨m3, e3, n3, a3, b3, k3⟩ := append_ok (a := B + 203) (N := i32N c) (s := s.2.2 + 4 + 4) hK (i32N_lt c) (by omega) ((K2.2.2.1 0).trans t1) n2
    have K3 := K2.trans k3
    rw [e3, bind_e, ldO_n ((K3.1.R nB).trans hr) hK0, bind_e]
    obtain ⟨m4, e4, n4, a4, b4, k4⟩ := append_ok (a := B + 203) (N := i32N d) (s := s.2.2 + 4 + 4 + 4) hK (i32N_lt d) (by omega) ((K3.2.2.1 0).trans t1) n3
    have K4 := K3.trans k4
    rw [e4, bind_e, ldO_n ((K4.1.R nB).trans hr) hK0, bind_e]
    obtain ⟨m5, e5, n5, a5, b5, k5⟩ := append_ok (a := B + 203) (N := i32N e) (s := s.2.2 + 4 + 4 + 4 + 4) hK (i32N_lt e) (by omega) ((K4.2.2.1 0).trans t1) n4
    have K5 := K4.trans k5
    rw [e5, bind_e, ldO_n ((K5.1.R nB).trans hr) hK0, bind_e, n5, nI_i32N a, nI_i32N b, nI_i32N c, nI_i32N d, nI_i32N e]
    have ht : tpR m5 B (s.1, fedB s.2.2 s.2.1 a b c d e, s.2.2 + 20) := by
      refine ⟨(K5.2.2.1 0).trans t1, n5, fun i hi => ?_⟩
      have hi : i < s.2.2 + 20 := hi
      show gI m5 (B + 203 + 1) i = nI (fedB s.2.2 s.2.1 a b c d e i)
      unfold fedB
      by_cases c0 : i < s.2.2
      · rw [if_pos c0, b5 i (by omega), b4 i (by omega), b3 i (by omega), b2 i (by omega), b1 i (by omega)]
        exact t3 i c0
      rw [if_neg c0]
      obtain ⟨k, hk⟩ : ∃ k, i = s.2.2 + k := ⟨i - s.2.2, by omega⟩
      subst hk
      rw [Nat.add_sub_cancel_left]
      by_cases c4 : k < 4
      · rw [if_pos c4, b5 _ (by omega), b4 _ (by omega), b3 _ (by omega), b2 _ (by omega), a1 k c4, show k % 4 = k by omega]
      rw [if_neg c4]
      by_cases c8 : k < 8
      · have := a2 (k - 4) (by omega)
        rw [show s.2.2 + 4 + (k - 4) = s.2.2 + k by omega] at this
        rw [if_pos c8, b5 _ (by omega), b4 _ (by omega), b3 _ (by omega), this, show k % 4 = k - 4 by omega]
      rw [if_neg c8]
      by_cases c12 : k < 12
      · have := a3 (k - 8) (by omega)
        rw [show s.2.2 + 4 + 4 + (k - 8) = s.2.2 + k by omega] at this
        rw [if_pos c12, b5 _ (by omega), b4 _ (by omega), this, show k % 4 = k - 8 by omega]
      rw [if_neg c12]
      by_cases c16 : k < 16
      · have := a4 (k - 12) (by omega)
        rw [show s.2.2 + 4 + 4 + 4 + (k - 12) = s.2.2 + k by omega] at this
        rw [if_pos c16, b5 _ (by omega), this, show k % 4 = k - 12 by omega]
      rw [if_neg c16]
      have := a5 (k - 16) (by omega)
      rw [show s.2.2 + 4 + 4 + 4 + 4 + (k - 16) = s.2.2 + k by omega] at this
      rw [this, show k % 4 = k - 16 by omega]
    obtain ⟨g1, g2⟩ := h.tape hok K5.1 ht rfl
    exact ⟨m5, rfl, g1, g2, K5.2.1⟩
  · rw [if_neg (show ¬ nI (s.2.2 + 20) ≤ (200 : Int32) from fun z => c20 ((nI_leI (b := 200) (by omega) (by omega)).mp z)), if_neg c20]; exact okX.same h
theorem feed_st {s : St} (hok : stOk s) (a b c d e : Int32) : stOk (nFeed s a b c d e).2 := by
  unfold nFeed
  split
  · rename_i c20
    refine ⟨hok.1, c20, fun i hi => ?_⟩
    show fedB s.2.2 s.2.1 a b c d e i < 256
    unfold fedB
    split
    · exact hok.2.2 i (by assumption)
    · exact Nat.mod_lt _ (by decide)
  · exact hok
def nEnd (s : St) (n : Int32) : Int32 × St := if n < 0 then (-1, s) else if n ≤ nI s.2.2 then (n, (s.1, s.2.1, n.toNatClampNeg)) else (-1, s)
theorem end_ok {K : Kn} {m : Mem} {B : Nat} {s : St} (hok : stOk s) (h : RX K m B s) (n : Int32) : okX K m B (F_X8_end K m B n) (nEnd s n).1 (nEnd s n).2 := by
  obtain ⟨t1, t2, t3⟩ := h.2.2.2.1
  have hs200 := hok.2.1
  unfold F_X8_end f_X8_end nEnd
  by_cases c1 : n < 0
  · rw [if_pos c1, if_pos c1]; exact okX.same h
  rw [if_neg c1, if_neg c1, tape_o h, bind_e, t2]
  obtain ⟨k, hk, rfl, hkc⟩ := idx_nI c1
  by_cases c2 : nI k ≤ nI s.2.2
  · rw [if_pos c2, if_pos c2, bind_e, hkc]
    simp only [bd_e]
    have c3 : k ≤ s.2.2 := (nI_leI (by omega) (by omega)).mp c2
    obtain ⟨g1, g2⟩ := h.tape (m' := sI m (B + 203) 1 (nI k)) (s' := (s.1, s.2.1, k)) hok (eqOn_sI (fun z => by unfold off at z; omega)) ⟨t1, gI_sI_s, fun i hi => by
      have hi : i < k := hi
      rw [gI_sI_n (Or.inl (by omega))]; exact t3 i (by omega)⟩ rfl
    exact ⟨_, rfl, g1, g2, rfl⟩
  · rw [if_neg c2, if_neg c2]; exact okX.same h
theorem end_st {s : St} (hok : stOk s) (n : Int32) : stOk (nEnd s n).2 := by
  unfold nEnd
  split
  · exact hok
  · rename_i c1
    obtain ⟨k, hk, rfl, hkc⟩ := idx_nI c1
    have := hok.2.1
    split
    · rename_i c2
      have c3 : k ≤ s.2.2 := (nI_leI (by omega) (by omega)).mp c2
      rw [hkc]
      exact ⟨hok.1, by show k ≤ 200; omega, fun i hi => hok.2.2 i (by have hi : i < k := hi; omega)⟩
    · exact hok
theorem taped_ok {K : Kn} {m : Mem} {B : Nat} {s : St} (h : RX K m B s) : F_X8_taped K m B = some (nI s.2.2) := by
  unfold F_X8_taped f_X8_taped
  rw [tape_o h, bind_e, h.2.2.2.1.2.1]
/-- a byte of a sealed block is another one -/
def putB (b : Bk) (i v : Nat) : Bk := (fun k => if k = i then v else b.1 k, b.2)
def nDamage (s : St) (x k i t : Int32) : Int32 × St := match sl s x with
  | none => (-2, s)
  | some S => if k < 0 then (-2, s) else match S.2.2.2[k.toNatClampNeg]? with
    | none => (-2, s)
    | some b => if i < 0 then (-2, s) else if nI b.2.1 ≤ i then (-2, s) else if t < 0 then (-2, s) else if t ≤ (255 : Int32) then (if b.2.2.1 = true then (nI (b.1 i.toNatClampNeg), upS s x.toNatClampNeg (S.1, S.2.1, S.2.2.1, S.2.2.2.set k.toNatClampNeg (putB b i.toNatClampNeg t.toNatClampNeg))) else (-5, s)) else (-2, s)
theorem putB_ok {b : Bk} (h : bkOk b) (hs : b.2.2.1 = true) {i v : Nat} (hv : v < 256) : bkOk (putB b i v) := by
  obtain ⟨h1, h2, h3, h4, h5, h6, h7⟩ := h
  refine ⟨fun k hk => ?_, h2, h3, h4, fun z => ?_, h6, h7⟩
  · show (if k = i then v else b.1 k) < 256
    split
    · exact hv
    · exact h1 k hk
  · have z : b.2.2.1 = false := z
    rw [hs] at z; cases z
theorem set_pairwise {bl : List Bk} {n : Nat} {b b' : Bk} (hn : bl[n]? = some b) (he : b'.2.2 = b.2.2) (h : bl.Pairwise (fun x y => x.2.2.1 = true ∧ x.2.2.2.2 < y.2.2.2.1)) : (bl.set n b').Pairwise (fun x y => x.2.2.1 = true ∧ x.2.2.2.2 < y.2.2.2.1) := by
  rw [List.pairwise_iff_getElem] at h ⊢
  intro i j hi hj hij
  rw [List.length_set] at hi hj
  have := h i j hi hj hij
  obtain ⟨hn1, hn2⟩ := List.getElem?_eq_some_iff.mp hn
  rw [List.getElem_set, List.getElem_set]
  by_cases c1 : n = i
  · subst c1
    rw [if_pos rfl, if_neg (by omega)]
    rw [hn2] at this
    rw [he]; exact this
  · rw [if_neg c1]
    by_cases c2 : n = j
    · subst c2
      rw [if_pos rfl]
      rw [hn2] at this
      rw [he]; exact this
    · rw [if_neg c2]; exact this
theorem damage_srOk {S : Sr} (hS : srOk S) {n i v : Nat} {b : Bk} (hn : S.2.2.2[n]? = some b) (hs : b.2.2.1 = true) (hv : v < 256) : srOk (S.1, S.2.1, S.2.2.1, S.2.2.2.set n (putB b i v)) := by
  obtain ⟨h1, h2, h3, h4, h5, h6, h7, h8, h9, h10⟩ := hS
  refine ⟨h1, h2, h3, h4, h5, h6, h7, by show (S.2.2.2.set n (putB b i v)).length ≤ 16; rw [List.length_set]; exact h8, fun x hx => ?_, set_pairwise hn rfl h10⟩
  have hbm := h9 b (List.mem_of_getElem? hn)
  rcases List.mem_or_eq_of_mem_set hx with hx | rfl
  · exact h9 x hx
  · exact ⟨putB_ok hbm.1 hs hv, hbm.2⟩
theorem RX.set2 {K : Kn} {m m' : Mem} {B : Nat} {s : St} (hok : stOk s) (h : RX K m B s) {j a : Nat} (hj : j < 4) (ha : gR m (B + 1) j = some a) {S : Sr} (e : eqOn (fun q => off a 38 q ∧ offq B q) m m') (hS : seR K m' a S) (hsc : scS K m' B) : RX K m' B (upS s j S) ∧ eqOn (off B 205) m m' := by
  obtain ⟨h1, h2, h3, h4, sa, a0, h5, π, h6⟩ := h
  have := saR_at a0 hj ha
  subst this
  obtain ⟨a1, a2, a3, a4⟩ := a0
  obtain ⟨i, hi, hsa⟩ := a1 j (by omega)
  have oB : ∀ q, (q < B + 2 ∨ B + 203 ≤ q) → off (sa j) 38 q ∧ offq B q := fun q hq => by unfold off offq; omega
  have ok : ∀ k, k < 5 → k ≠ j → insr (sa k) 38 (fun q => off (sa j) 38 q ∧ offq B q) := fun k hk hkj q g1 g2 => by
    obtain ⟨i', hi', hsa'⟩ := a1 k hk
    have hne : i' ≠ i := fun z => hkj (a2 k j hk (by omega) (by rw [hsa, hsa', z]))
    unfold off offq; omega
  refine ⟨⟨h1, ?_, hsc, ?_, sa, ⟨a1, a2, fun k hk => (e.R (oB _ (by omega))).trans (a3 k hk), (e.R (oB _ (by omega))).trans a4⟩, fun k hk => ?_, π, h6.on e (ok 4 (by omega) (by omega))⟩, e.mono (fun q hq => by unfold off at hq; unfold off offq; omega)⟩
  · obtain ⟨r1, r2, r3, r4, r5, r6, r7, r8⟩ := h2
    have e0 := oB B (by omega)
    exact ⟨(e.R e0).trans r1, (e.R e0).trans r2, (e.R e0).trans r3, (e.R e0).trans r4, (e.R e0).trans r5, (e.R e0).trans r6, (e.R e0).trans r7, (e.R e0).trans r8⟩
  · obtain ⟨t1, t2, t3⟩ := h4
    exact ⟨(e.R (oB _ (by omega))).trans t1, (e.I (oB _ (by omega))).trans t2, fun i hi => (e.I (oB _ (by omega))).trans (t3 i hi)⟩
  · unfold upS
    dsimp only
    by_cases c : k = j
    · rw [if_pos c, c]; exact hS
    · rw [if_neg c]
      exact (h5 k hk).on (fun S hS => hok.1 k S hS) e (ok k (by omega) c)
theorem seS_blk2 {p : Nat → Prop} {K : Kn} {m m' : Mem} {a j : Nat} {π : Nat → Nat} (hs : seS K m a π) (hj : j < 16) (e : eqOn p m m') (hp : ∀ q, a ≤ q → q < a + 38 → off (a + 6 + 2 * j) 2 q → p q) (h0 : gR m' (a + 6 + 2 * j) 0 = some (a + 6 + 2 * j + 1)) : seS K m' a π := by
  obtain ⟨h1, h2, h3, h4, h5, h6, h7, h8, h9⟩ := hs
  refine ⟨h1, (e.R (hp _ (by omega) (by omega) (by unfold off; omega))).trans h2, (e.R (hp _ (by omega) (by omega) (by unfold off; omega))).trans h3, (e.R (hp _ (by omega) (by omega) (by unfold off; omega))).trans h4, (e.R (hp _ (by omega) (by omega) (by unfold off; omega))).trans h5, (e.R (hp _ (by omega) (by omega) (by unfold off; omega))).trans h6, fun k hk => ⟨(h7 k hk).1, (e.R (hp _ (by omega) (by omega) (by unfold off; omega))).trans (h7 k hk).2⟩, h8, fun i hi => ?_⟩
  by_cases c : i = j
  · rw [c]; exact h0
  · exact (e.R (hp _ (by omega) (by omega) (by unfold off; omega))).trans (h9 i hi)
theorem damage_ok {K : Kn} {m : Mem} {B : Nat} {s : St} (hok : stOk s) (h : RX K m B s) (x k i t : Int32) : okX K m B (F_X8_damage K m B x k i t) (nDamage s x k i t).1 (nDamage s x k i t).2 := by
  obtain ⟨hN, hSb⟩ := blockOf_ok hok h x k
  unfold F_X8_damage f_X8_damage nDamage
  cases hb : bko s x k with
  | none =>
    rw [hN hb, bind_e, caseO_n]
    unfold bko at hb
    cases hs : sl s x with
    | none => exact okX.same h
    | some S =>
      rw [hs] at hb
      dsimp only at hb ⊢
      by_cases ck : k < 0
      · rw [if_pos ck]; exact okX.same h
      · rw [if_neg ck] at hb ⊢
        rw [hb]; exact okX.same h
  | some b =>
    obtain ⟨S, j, n, a, π, hs, rfl, hj, hSo, rfl, hn, hget, hal, ⟨i', hi', rfl⟩, e3, e3', f1, q1, q2, hπ⟩ := hSb b hb
    have h16 := hSo.2.2.2.2.2.2.2.1
    have h200 := q2.2.2.1
    rw [f1, bind_e, caseO_v, gd_t q1.2.1, hs]
    dsimp only
    rw [if_neg (nI_pos (by omega)), nI_clamp (by omega), hget]
    dsimp only
    by_cases c1 : i < 0
    · rw [if_pos c1, if_pos c1]; exact okX.same h
    rw [if_neg c1, if_neg c1, q1.2.2.2.2.1]
    by_cases c2 : nI b.2.1 ≤ i
    · rw [if_pos c2, if_pos c2]; exact okX.same h
    rw [if_neg c2, if_neg c2]
    by_cases c3 : t < 0
    · rw [if_pos c3, if_pos c3]; exact okX.same h
    rw [if_neg c3, if_neg c3]
    by_cases c4 : t ≤ (255 : Int32)
    · rw [if_pos c4, if_pos c4, q1.2.2.2.2.2.2.2.1]
      by_cases hse : b.2.2.1 = true
      · simp only [if_pos hse]
        rw [if_neg (by decide)]
        obtain ⟨ii, hii, rfl, hic⟩ := idx_nI c1
        obtain ⟨tt, htt, rfl, htc⟩ := idx_nI c3
        have hib : ii < b.2.1 := by
          rcases Nat.lt_or_ge ii b.2.1 with h | h
          · exact h
          · exact absurd ((nI_leI (by omega) (by omega)).mpr h) c2
        have ht255 : tt ≤ 255 := (nI_leI (b := 255) (by omega) (by omega)).mp c4
        rw [hic, htc, (slot_c hj).2]
        obtain ⟨t1, t2, t3, t4, t5, t6, t7, t8, -⟩ := id q1
        rw [ldA_n t1 t3, bind_e, alI_n (lenK_of t3) (by omega) (by omega), bind_e, bind_e, asI_n (lenK_of t3) (by omega) (by omega), bind_e, t4 ii hib]
        generalize hA : B + 2 + 38 * i' + 6 + 2 * π n = A at *
        -- the byte is put
        have E1 : eqOn (fun q => q ≠ A + 1) m (sI m (A + 1) ii (nI tt)) := eqOn_sI (fun z => z rfl)
        have W1 : bkW K (sI m (A + 1) ii (nI tt)) A (putB b ii tt) := by
          refine ⟨t1, t2, t3, fun q hq => ?_, (E1.I (by omega)).trans t5, (E1.I (by omega)).trans t6, (E1.I (by omega)).trans t7, (E1.I (by omega)).trans t8⟩
          rw [gI_sIa]
          show _ = nI (if q = ii then tt else b.1 q)
          by_cases c : q = ii
          · rw [if_pos c, if_pos c]
          · rw [if_neg c, if_neg c]; exact t4 q hq
        have z1 : szm (sI m (A + 1) ii (nI tt)) = szm m := rfl
        have hb' := putB_ok (i := ii) q2 hse (show tt < 256 by omega)
        have hAB : B + 2 ≤ A ∧ A + 2 ≤ B + 192 := by omega
        have hr1 : rdS K (sI m (A + 1) ii (nI tt)) (B + 199) := h.2.2.1.1.on E1 (show B + 199 ≠ A + 1 by omega)
        have hro1 : gR (sI m (A + 1) ii (nI tt)) B 5 = some (B + 199) := h.2.1.2.2.2.2.1
        generalize sI m (A + 1) ii (nI tt) = m1 at E1 W1 z1 hr1 hro1 ⊢
        rw [ldO_n hro1 hr1.2.1, bind_e]
        have hy : byR m1 (A + 1) (putB b ii tt).1 b.2.1 := fun q hq => ⟨W1.2.2.2.1 q hq, hb'.1 q hq⟩
        have h67 := hb'.2.2.2.2.2
        obtain ⟨m2, x1, x2, x3, x4, x5⟩ := examine_ok (kn := true) (by_ := (putB b ii tt).1) (fst := b.2.2.2.1) (lst := b.2.2.2.2) hr1 W1.1 W1.2.2.1 (show offr (B + 199) A from ⟨by omega, by omega⟩) (show offr (B + 199) (A + 1) from ⟨by omega, by omega⟩) W1.2.2.2.2.1 h200 (by rw [W1.2.2.2.2.2.2.2]; show (if b.2.2.1 = true then (1 : Int32) else 0) = 1; rw [hse]; rfl) hy (fun _ => W1.2.2.2.2.2.1) (fun _ => W1.2.2.2.2.2.2.1) (by have := q2.2.2.2.2.2; omega) (by have := q2.2.2.2.2.2; omega)
        rw [if_pos rfl] at x1
        have hrs : knB (putB b ii tt).1 true b.2.2.2.1 b.2.2.2.2 (exS (putB b ii tt).1 (putB b ii tt).2.1) = rsB (putB b ii tt) := by
          rw [knB_t]
          unfold rsB
          rw [if_pos (show (putB b ii tt).2.2.1 = true from hse)]
          rfl
        rw [hrs] at x1 x5
        rw [x1, bind_e]
        dsimp only
        rw [ldO_n ((x3.R (show offr (B + 199) B from ⟨by omega, by omega⟩)).trans hro1) x2.2.1, bind_e]
        have W2 := W1.on x3 (show offr (B + 199) A from ⟨by omega, by omega⟩) (show offr (B + 199) (A + 1) from ⟨by omega, by omega⟩)
        obtain ⟨m3, y1, y2, y3, y4⟩ := settle_bk W2 hb' hse (show A ≠ B + 199 by omega) x5
        rw [y1, bind_e]
        -- reading alone
        have hok' : stOk s := hok
        have Eall : eqOn (fun q => q ≠ A ∧ q ≠ A + 1 ∧ offr (B + 199) q) m m3 := ((E1.mono (fun _ z => z.2.1)).trans (x3.mono (fun _ z => z.2.2))).trans (y3.mono (fun _ z => z.1))
        have hsl := h.at2 hok hs
        obtain ⟨j', a', hj', hjj, hsj, -, -, hal', -, hgr, -⟩ := hsl
        have : j' = j := (nI_eq (by omega) (by omega)).mp hjj.symm
        subst this
        rw [hal] at hal'
        cases hal'
        have hpin : ∀ q, B + 2 + 38 * i' ≤ q → q < B + 2 + 38 * i' + 38 → off (B + 2 + 38 * i' + 6 + 2 * π n) 2 q → (q ≠ A ∧ q ≠ A + 1 ∧ offr (B + 199) q) := fun q g1 g2 g3 => by
          unfold off at g3
          exact ⟨by omega, by omega, by omega, by omega⟩
        have s3 : seS K m3 (B + 2 + 38 * i') π := seS_blk2 e3 hπ Eall hpin (by rw [hA]; exact y2.1)
        have d3 : seD K m3 (B + 2 + 38 * i') π (S.1, S.2.1, S.2.2.1, S.2.2.2.set n (putB b ii tt)) := by
          obtain ⟨d1, d2, d3, d4, d5, d6, d7⟩ := e3'
          have pa := hpin (B + 2 + 38 * i') (by omega) (by omega) (by unfold off; omega)
          refine ⟨(Eall.I pa).trans d1, (Eall.I pa).trans d2, (Eall.I pa).trans d3, ?_, d5.on Eall (hpin _ (by omega) (by omega) (by unfold off; omega)) (hpin _ (by omega) (by omega) (by unfold off; omega)) (hpin _ (by omega) (by omega) (by unfold off; omega)), fun kk bb hk => ?_, fun bb p c l g1 g2 g3 => ?_⟩
          · rw [Eall.I pa, d4]
            show _ = nI (S.2.2.2.set n (putB b ii tt)).length
            rw [List.length_set]
          · have hk : (S.2.2.2.set n (putB b ii tt))[kk]? = some bb := hk
            rw [List.getElem?_set] at hk
            by_cases ck : n = kk
            · subst ck
              rw [if_pos rfl, if_pos hn] at hk
              cases hk
              rw [hA]; exact y2
            · rw [if_neg ck] at hk
              have hk16 : kk < 16 := by have := (List.getElem?_eq_some_iff.mp hk).1; omega
              have hne : π kk ≠ π n := fun z => ck (e3.2.2.2.2.2.2.2.1 kk n hk16 (by omega) z).symm
              have := (e3.2.2.2.2.2.2.1 kk hk16).1
              exact (d6 kk bb hk).on Eall (hpin _ (by omega) (by omega) (by unfold off; omega)) (hpin _ (by omega) (by omega) (by unfold off; omega))
          · have g1 : (S.2.2.2.set n (putB b ii tt)).getLast? = some bb := g1
            rw [List.getLast?_eq_getElem?, List.length_set, List.getElem?_set] at g1
            by_cases ck : n = S.2.2.2.length - 1
            · rw [if_pos ck, if_pos hn] at g1
              cases g1
              have g2 : b.2.2.1 = false := g2
              rw [hse] at g2; cases g2
            · rw [if_neg ck] at g1
              exact (d7 bb p c l (by rw [List.getLast?_eq_getElem?]; exact g1) g2 g3).on Eall (hpin _ (by omega) (by omega) (by unfold off; omega))
        have hr0 := h.2.2.1
        have psc : ∀ q, B + 192 ≤ q → offr (B + 199) q → (q ≠ A ∧ q ≠ A + 1 ∧ offr (B + 199) q) := fun q g1 g2 => ⟨by omega, by omega, g2⟩
        have sc3 : scS K m3 B := ⟨x2.on y3 (show B + 199 ≠ A by omega), hr0.2.1.on Eall (psc _ (by omega) ⟨by omega, by omega⟩), hr0.2.2.1.on Eall (psc _ (by omega) ⟨by omega, by omega⟩), (Eall.R (psc _ (by omega) ⟨by omega, by omega⟩)).trans hr0.2.2.2.1, (Eall.R (psc _ (by omega) ⟨by omega, by omega⟩)).trans hr0.2.2.2.2.1, (Eall.R (psc _ (by omega) ⟨by omega, by omega⟩)).trans hr0.2.2.2.2.2⟩
        obtain ⟨g1, g2⟩ := h.set2 hok hj hgr (Eall.mono (fun q hq => by
          obtain ⟨q1, q2⟩ := hq
          unfold off at q1
          unfold offq at q2
          exact ⟨by omega, by omega, by omega, by omega⟩)) ⟨π, s3, d3⟩ sc3
        exact ⟨m3, rfl, g1, g2, y4.trans (x4.trans z1)⟩
      · simp only [if_neg hse, if_true]
        exact okX.same h
    · rw [if_neg c4, if_neg c4]; exact okX.same h
theorem damage_st {s : St} (hok : stOk s) (x k i t : Int32) : stOk (nDamage s x k i t).2 := by
  unfold nDamage
  cases hs : sl s x with
  | none => exact hok
  | some S =>
    dsimp only
    split
    · exact hok
    · cases hb : S.2.2.2[k.toNatClampNeg]? with
      | none => exact hok
      | some b =>
        dsimp only
        split
        · exact hok
        split
        · exact hok
        split
        · exact hok
        split
        · rename_i c3 c4
          split
          · rename_i hse
            obtain ⟨tt, htt, rfl, htc⟩ := idx_nI c3
            have ht255 : tt ≤ 255 := (nI_leI (b := 255) (by omega) (by omega)).mp c4
            rw [htc]
            exact upS_ok hok (damage_srOk (sl_ok hok hs) hb hse (by omega))
          · exact hok
        · exact hok
