/-! ===== the class's blocks: write, close, settle, become ===== -/
theorem write_bk {K : Kn} {m : Mem} {a c p t : Nat} {v : Int64} {s : Cs} {b : Bk} {l : List PtR} (hb : bkR K m a b) (hok : bkOk b) (hs : b.2.2.1 = false) (hrs : rsB b = .inr (p, s, l)) (hc : off a 2 c) (hco : coR m c s) (hw : weR m c s t v) (ht1 : s.1 < t) (ht : t ≤ 2000000000) (hp : p + costA s t v ≤ 1480) :
    ∃ m', F_X0_write K m a c = some m' ∧ bkR K m' a (wrB b p s t v) ∧ eqOn (off a 2) m m' ∧ szm m' = szm m := by
  have hf := rs_facts hok hrs
  have hwr := wr_ok (v := v) hok hs hrs ht1 ht hp
  obtain ⟨g1, p', c', l', g2, g3, g4⟩ := hok.2.2.2.2.1 hs
  have e := opn_rs hs g2
  rw [hrs] at e
  cases e
  obtain ⟨t1, t2, t3, t4, t5, t6, t7, t8, t9⟩ := hb
  rw [hrs] at t9
  obtain ⟨u7, u8, u2, u3⟩ := t9
  have W : wst K m a p (fb b.1 p) := ⟨t3, t1, u2, fun i hi => by rw [t4 (14 + i) (by rw [g2.2.1]; omega), opn_hb g2 hok.1 i hi]⟩
  obtain ⟨m', e1, e2, w1, w2, w3, w4, w5, w6, w7, w8, w9, w10, w11⟩ := write_ok (v := v) W u3 (by dsimp only; omega) hc hco hw hf.2.2.2.2.1 (by omega) ht (by omega)
  refine ⟨m', e1, ⟨(w6 0).trans t1, t2, t3, fun i hi => ?_, w1, (w5 4 (by decide) (by decide) (by decide) (by decide)).trans t6, w4, ?_, ?_⟩, w7, w8⟩
  · have hi : i < 14 + (p + costA s t v + 7) / 8 := hi
    show _ = nI (wrF b.1 p (costA s t v) (chN (encP s t v)) i)
    have hln : l.length = hct b.1 := hf.1
    unfold wrF
    by_cases c1 : i = 12
    · rw [if_pos c1, c1, w10, hln]
    rw [if_neg c1]
    by_cases c2 : i = 13
    · rw [if_pos c2, c2, w11, hln]
    rw [if_neg c2]
    by_cases c3 : i < 14
    · rw [if_pos c3, w9 i (by omega), t4 i (by have := hok.2.1; omega)]
    · rw [if_neg c3]
      have := e2 (i - 14) (by omega)
      rw [show 14 + (i - 14) = i by omega] at this
      exact this
  · rw [w5 6 (by decide) (by decide) (by decide) (by decide), t8, hs]; rfl
  · rw [hwr.2]
    refine ⟨(w5 7 (by decide) (by decide) (by decide) (by decide)).trans u7, (w5 8 (by decide) (by decide) (by decide) (by decide)).trans u8, w2, ?_⟩
    rw [w3, List.length_append]; rfl
theorem close_bk {K : Kn} {m : Mem} {a : Nat} {b : Bk} (hb : bkR K m a b) (hok : bkOk b) (hs : b.2.2.1 = false) :
    ∃ m', F_X0_close K m a = some m' ∧ bkR K m' a (clB b) ∧ eqOn (off a 2) m m' ∧ szm m' = szm m := by
  have hby := hb.by hok
  obtain ⟨g1, p, c, l, g2, g3, g4⟩ := hok.2.2.2.2.1 hs
  have e := opn_rs hs g2
  have e' := cl_rs g2 g3 g4
  obtain ⟨t1, t2, t3, t4, t5, t6, t7, t8, t9⟩ := hb
  rw [e] at t9
  obtain ⟨u7, u8, u2, u3⟩ := t9
  unfold F_X0_close f_X0_close f_X0_close_37
  rw [t5, if_neg (show ¬ (200 : Int32) ≤ nI b.2.1 from fun z => by rw [show (200 : Int32) = nI 200 from rfl, nI_leI (by omega) (by omega)] at z; omega), ldA_n t1 t3, bind_e, checkOf_ok t1 t3 (by omega) hby, bind_e, asI_n (lenK_of t3) (by omega) (by omega), bind_e]
  simp only [bd_e]
  rw [gI_sI_n (Or.inl (by omega)), t5, nI_1]
  refine ⟨_, rfl, ⟨t1, t2, t3, fun i hi => ?_, ?_, ?_, ?_, ?_, ?_⟩, fun q hq k => ?_, rfl⟩
  · have hi : i < b.2.1 + 1 := hi
    rw [gI_sI_n (Or.inl (by omega)), gI_sI_n (Or.inl (by omega)), gI_sIa]
    show _ = nI (if i = b.2.1 then chk b.1 b.2.1 else b.1 i)
    by_cases c1 : i = b.2.1
    · rw [if_pos c1, if_pos c1]
    · rw [if_neg c1, if_neg c1, t4 i (by omega)]
  · rw [gI_sI_n (Or.inr (by decide)), gI_sI_s]; rfl
  · rw [gI_sI_n (Or.inr (by decide)), gI_sI_n (Or.inr (by decide)), gI_sI_n (Or.inl (by omega)), t6]; rfl
  · rw [gI_sI_n (Or.inr (by decide)), gI_sI_n (Or.inr (by decide)), gI_sI_n (Or.inl (by omega)), t7]; rfl
  · rw [gI_sI_s]; rfl
  · rw [e']
    refine ⟨?_, ?_, ?_, ?_⟩ <;> rw [gI_sI_n (Or.inr (by decide)), gI_sI_n (Or.inr (by decide)), gI_sI_n (Or.inl (by omega))] <;> assumption
  · have := off2 hq
    exact ⟨by rw [gI_sI_n (Or.inl this.1), gI_sI_n (Or.inl this.1), gI_sI_n (Or.inl this.2)], rfl, rfl⟩
/-- a block's bytes, size, stamps, seal -/
def bkW (K : Kn) (m : Mem) (a : Nat) (b : Bk) : Prop := gR m a 0 = some (a + 1) ∧ K a = some (.inl 0) ∧ K (a + 1) = some (.inr (0, 200)) ∧ (∀ i, i < b.2.1 → gI m (a + 1) i = nI (b.1 i)) ∧ gI m a 1 = nI b.2.1 ∧ gI m a 4 = nI b.2.2.2.1 ∧ gI m a 5 = nI b.2.2.2.2 ∧ gI m a 6 = (if b.2.2.1 = true then 1 else 0)
theorem bkR.w {K : Kn} {m : Mem} {a : Nat} {b : Bk} (h : bkR K m a b) : bkW K m a b := ⟨h.1, h.2.1, h.2.2.1, h.2.2.2.1, h.2.2.2.2.1, h.2.2.2.2.2.1, h.2.2.2.2.2.2.1, h.2.2.2.2.2.2.2.1⟩
theorem bkW.on {p : Nat → Prop} {K : Kn} {m m' : Mem} {a : Nat} {b : Bk} (h : bkW K m a b) (e : eqOn p m m') (h1 : p a) (h2 : p (a + 1)) : bkW K m' a b := by
  obtain ⟨t1, t2, t3, t4, t5, t6, t7, t8⟩ := h
  exact ⟨(e.R h1).trans t1, t2, t3, fun i hi => (e.I h2).trans (t4 i hi), (e.I h1).trans t5, (e.I h1).trans t6, (e.I h1).trans t7, (e.I h1).trans t8⟩
theorem fltS_lt {by_ : Nat → Nat} {size fst lst : Nat} : fltS (exK by_ size fst lst) < 8 := by
  unfold exK exS
  cases hx : (if size < 15 ∨ by_ (size - 1) ≠ chk by_ (size - 1) then .inl (1, -1)
  else if hct by_ = 0 then .inl (5, 0)
  else if 2000000000 < hst by_ then .inl (3, 0)
  else match rdN (fb by_ (8 * (size - 15))) (8 * (size - 15)) (cs0 by_) (hct by_ - 1) with
    | .inl e => .inl (e.1, (e.2 : Int))
    | .inr r => if 7 < 8 * (size - 15) - r.1 ∨ num (fb by_ (8 * (size - 15))) r.1 (8 * (size - 15) - r.1) ≠ 0 then .inl (6, (r.1 : Int)) else .inr r : (Nat × Int) ⊕ (Nat × Cs × List PtR)) with
  | inr r =>
    dsimp only
    split <;> (unfold fltS; dsimp only; omega)
  | inl e =>
    dsimp only
    unfold fltS
    dsimp only
    split at hx
    · cases hx; decide
    split at hx
    · cases hx; decide
    split at hx
    · cases hx; decide
    split at hx
    · rename_i e' he'
      cases hx
      have : ∀ n, rdN (fb by_ (8 * (size - 15))) (8 * (size - 15)) (cs0 by_) n = .inl e' → e'.1 < 5 := by
        intro n
        induction n with
        | zero => intro h; cases h
        | succ n ih =>
          intro h
          unfold rdN at h
          cases hn : rdN (fb by_ (8 * (size - 15))) (8 * (size - 15)) (cs0 by_) n with
          | inl q => rw [hn] at h ih; exact ih h
          | inr q =>
            obtain ⟨p1, c1, l1⟩ := q
            rw [hn] at h
            dsimp only at h
            split at h
            · cases h
            · cases h; exact rdP_flt _ _ _ _
      have := this _ he'
      show e'.1 < 8
      omega
    · split at hx
      · cases hx; show 6 < 8; decide
      · cases hx
theorem settle_bk {K : Kn} {m : Mem} {a r : Nat} {b : Bk} (hb : bkW K m a b) (hok : bkOk b) (hs : b.2.2.1 = true) (hra : a ≠ r) (hp : exP m r b.1 (rsB b)) :
    ∃ m', F_X0_settle K m a (nI (fltS (rsB b))) r = some m' ∧ bkR K m' a b ∧ eqOn (fun q => q ≠ a) m m' ∧ szm m' = szm m := by
  obtain ⟨t1, t2, t3, t4, t5, t6, t7, t8⟩ := hb
  unfold F_X0_settle f_X0_settle
  simp only [bd_e]
  rw [gI_sI_n (Or.inl (Ne.symm hra))]
  cases hr : rsB b with
  | inl e =>
    rw [hr] at hp
    have hlt : fltS (rsB b) < 8 := by unfold rsB; rw [if_pos hs]; exact fltS_lt
    have hne : e.1 ≠ 0 := by
      intro z
      have : rsB b = exK b.1 b.2.1 b.2.2.2.1 b.2.2.2.2 := by unfold rsB; rw [if_pos hs]
      rw [this] at hr
      revert hr
      unfold exK
      cases hS : exS b.1 b.2.1 with
      | inr q =>
        dsimp only
        split
        · intro hh; cases hh; exact absurd z (by decide)
        · intro hh; cases hh
      | inl q =>
        dsimp only
        intro hh; cases hh
        unfold exS at hS
        split at hS
        · cases hS; exact absurd z (by decide)
        split at hS
        · cases hS; exact absurd z (by decide)
        split at hS
        · cases hS; exact absurd z (by decide)
        split at hS
        · rename_i e' he'
          cases hS
          have : ∀ n, rdN (fb b.1 (8 * (b.2.1 - 15))) (8 * (b.2.1 - 15)) (cs0 b.1) n = .inl e' → e'.1 ≠ 0 := by
            intro n
            induction n with
            | zero => intro h; cases h
            | succ n ih =>
              intro h
              unfold rdN at h
              cases hn : rdN (fb b.1 (8 * (b.2.1 - 15))) (8 * (b.2.1 - 15)) (cs0 b.1) n with
              | inl q => rw [hn] at h ih; exact ih h
              | inr q =>
                obtain ⟨p1, c1, l1⟩ := q
                rw [hn] at h
                dsimp only at h
                split at h
                · cases h
                · cases h; assumption
          exact this _ he' z
        · split at hS
          · cases hS; exact absurd z (by simp)
          · cases hS
    rw [hr] at hlt
    have hlt : e.1 < 8 := hlt
    rw [show fltS (.inl e) = e.1 from rfl, if_neg (fun z => by rw [show (0 : Int32) = nI 0 from rfl, nI_eq (by omega) (by omega)] at z; exact hne z)]
    refine ⟨_, rfl, ⟨t1, t2, t3, fun i hi => ?_, ?_, ?_, ?_, ?_, ?_⟩, fun q hq k => ?_, rfl⟩
    · rw [gI_sI_n (Or.inl (by omega)), gI_sI_n (Or.inl (by omega)), t4 i hi]
    · rw [gI_sI_n (Or.inr (by decide)), gI_sI_n (Or.inr (by decide)), t5]
    · rw [gI_sI_n (Or.inr (by decide)), gI_sI_n (Or.inr (by decide)), t6]
    · rw [gI_sI_n (Or.inr (by decide)), gI_sI_n (Or.inr (by decide)), t7]
    · rw [gI_sI_n (Or.inr (by decide)), gI_sI_n (Or.inr (by decide)), t8]
    · rw [hr]
      refine ⟨by rw [gI_sI_n (Or.inr (by decide)), gI_sI_s], by rw [gI_sI_s]; exact hp⟩
    · have hq : q ≠ a := hq
      exact ⟨by rw [gI_sI_n (Or.inl hq), gI_sI_n (Or.inl hq)], rfl, rfl⟩
  | inr q =>
    rw [hr] at hp
    obtain ⟨e1, e2, e3, e4, e5⟩ := hp
    have hln : q.2.2.length = hct b.1 := (rs_facts (p := q.1) (c := q.2.1) (l := q.2.2) hok hr).1
    rw [show fltS (.inr q) = 0 from rfl, if_pos (show nI 0 = (0 : Int32) from rfl)]
    refine ⟨_, rfl, ⟨t1, t2, t3, fun i hi => ?_, ?_, ?_, ?_, ?_, ?_⟩, fun q hq k => ?_, rfl⟩
    · rw [gI_sI_n (Or.inl (by omega)), gI_sI_n (Or.inl (by omega)), gI_sI_n (Or.inl (by omega)), gI_sI_n (Or.inl (by omega)), t4 i hi]
    · rw [gI_sI_n (Or.inr (by decide)), gI_sI_n (Or.inr (by decide)), gI_sI_n (Or.inr (by decide)), gI_sI_n (Or.inr (by decide)), t5]
    · rw [gI_sI_n (Or.inr (by decide)), gI_sI_n (Or.inr (by decide)), gI_sI_n (Or.inr (by decide)), gI_sI_n (Or.inr (by decide)), t6]
    · rw [gI_sI_n (Or.inr (by decide)), gI_sI_n (Or.inr (by decide)), gI_sI_n (Or.inr (by decide)), gI_sI_n (Or.inr (by decide)), t7]
    · rw [gI_sI_n (Or.inr (by decide)), gI_sI_n (Or.inr (by decide)), gI_sI_n (Or.inr (by decide)), gI_sI_n (Or.inr (by decide)), t8]
    · rw [hr]
      have na : r ≠ a := Ne.symm hra
      refine ⟨?_, ?_, ?_, ?_⟩
      · rw [gI_sI_n (Or.inr (by decide)), gI_sI_n (Or.inr (by decide)), gI_sI_n (Or.inr (by decide)), gI_sI_s]; rfl
      · rw [gI_sI_n (Or.inr (by decide)), gI_sI_n (Or.inr (by decide)), gI_sI_s]; exact e1
      · rw [gI_sI_s, gI_sI_n (Or.inl na), gI_sI_n (Or.inl na), gI_sI_n (Or.inl na)]; exact e2
      · rw [gI_sI_n (Or.inr (by decide)), gI_sI_s, gI_sI_n (Or.inl na), gI_sI_n (Or.inl na), hln]; exact e3
    · have hq : q ≠ a := hq
      exact ⟨by rw [gI_sI_n (Or.inl hq), gI_sI_n (Or.inl hq), gI_sI_n (Or.inl hq), gI_sI_n (Or.inl hq)], rfl, rfl⟩
theorem become_bk {K : Kn} {m : Mem} {a d : Nat} {b : Bk} (hb : bkR K m d b) (hs : b.2.1 ≤ 200) (h0 : gR m a 0 = some (a + 1)) (hK0 : K a = some (.inl 0)) (hK : K (a + 1) = some (.inr (0, 200))) (hd : off a 2 d) (hd1 : off a 2 (d + 1)) :
    ∃ m', F_X0_become K m a d = some m' ∧ bkR K m' a b ∧ eqOn (off a 2) m m' ∧ szm m' = szm m := by
  obtain ⟨t1, t2, t3, t4, t5, t6, t7, t8, t9⟩ := hb
  have n1 := off2 hd
  have n2 := off2 hd1
  unfold F_X0_become f_X0_become
  rw [ldA_n t1 t3, bind_e, ldA_n h0 hK, bind_e, t5]
  have hcp : acpI K m (d + 1) 0 (a + 1) 0 (nI b.2.1) = some (cpI m (d + 1) (a + 1) 0 0 b.2.1) := by
    unfold acpI
    rw [lenK_of hK, lenK_of t3, nI_clamp (by omega)]
    rw [if_pos ⟨⟨by decide, by decide, nI_pos (by omega)⟩, by show 0 + b.2.1 ≤ 200; omega, by show 0 + b.2.1 ≤ 200; omega⟩]
    rfl
  rw [hcp, bind_e]
  have ci : ∀ q k, q ≠ a + 1 → gI (cpI m (d + 1) (a + 1) 0 0 b.2.1) q k = gI m q k := fun q k hq => by
    show (if q = a + 1 then _ else _) = _
    rw [if_neg hq]; rfl
  have cb : ∀ i, i < b.2.1 → gI (cpI m (d + 1) (a + 1) 0 0 b.2.1) (a + 1) i = nI (b.1 i) := fun i hi => by
    show (if a + 1 = a + 1 then va_cpy (m.2.1 (d + 1)) (m.2.1 (a + 1)) 0 0 b.2.1 i else _) = _
    rw [if_pos rfl, pk_cpy_in (by omega) (by omega), ← t4 i hi, Nat.sub_zero, Nat.zero_add]
    rfl
  have cr : ∀ q k, gR (cpI m (d + 1) (a + 1) 0 0 b.2.1) q k = gR m q k := fun _ _ => rfl
  have cj : ∀ q k, gJ (cpI m (d + 1) (a + 1) 0 0 b.2.1) q k = gJ m q k := fun _ _ => rfl
  have cs : szm (cpI m (d + 1) (a + 1) 0 0 b.2.1) = szm m := rfl
  have hcd : ∀ k, gI (cpI m (d + 1) (a + 1) 0 0 b.2.1) d k = gI m d k := fun k => ci d k n1.2
  generalize cpI m (d + 1) (a + 1) 0 0 b.2.1 = M at ci cb cr cj cs hcd ⊢
  simp only [bd_e, gI_sI_n (Or.inl n1.1), hcd]
  have h6 : gI m d 6 = 0 ∨ gI m d 6 = 1 := by
    rw [t8]
    cases b.2.2.1
    · exact Or.inl rfl
    · exact Or.inr rfl
  rw [gd_t h6]
  refine ⟨_, rfl, ⟨(cr a 0).trans h0, hK0, hK, fun i hi => ?_, ?_, ?_, ?_, ?_, ?_⟩, fun q hq k => ?_, cs⟩
  · simp only [gI_sI_n (Or.inl (show a + 1 ≠ a by omega))]
    exact cb i hi
  · simp only [gI_sIa]; exact t5
  · simp only [gI_sIa]; exact t6
  · simp only [gI_sIa]; exact t7
  · simp only [gI_sIa]; exact t8
  · simp only [gI_sIa]; exact t9
  · have := off2 hq
    exact ⟨by simp only [gI_sI_n (Or.inl this.1)]; exact ci q k this.2, cj q k, cr q k⟩
