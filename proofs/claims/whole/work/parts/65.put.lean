/-! ===== a point comes to a series ===== -/
/-- the last block is sealed, if it is open -/
def clL (bl : List Bk) : List Bk := match bl.getLast? with
  | none => []
  | some b => if b.2.2.1 = true then bl else bl.dropLast ++ [clB b]
def putN (S : Sr) (t : Nat) (v : Int64) : Option Sr := if 16 ≤ S.2.2.2.length then none else some (S.1, (t : Int), S.2.2.1, clL S.2.2.2 ++ [nwB t v])
def fitA (room p : Nat) (c : Cs) (t : Nat) (v : Int64) : Bool := decide (14 + (p + costA c t v + 7) / 8 + 1 ≤ room)
def putS (S : Sr) (t : Nat) (v : Int64) : Option Sr := match opA S.2.2.2 with
  | none => putN S t v
  | some (p, c) => if fitA S.1 p c t v = true then (match S.2.2.2.getLast? with
    | none => none
    | some b => some (S.1, (t : Int), S.2.2.1, S.2.2.2.dropLast ++ [wrB b p c t v])) else putN S t v
theorem clL_nil : clL [] = [] := rfl
theorem clL_t {bl0 : List Bk} {b : Bk} (h : b.2.2.1 = true) : clL (bl0 ++ [b]) = bl0 ++ [b] := by
  unfold clL; rw [List.getLast?_concat]; simp [h]
theorem clL_f {bl0 : List Bk} {b : Bk} (h : b.2.2.1 = false) : clL (bl0 ++ [b]) = bl0 ++ [clB b] := by
  unfold clL; rw [List.getLast?_concat]; simp [h]
theorem clL_len (bl : List Bk) : (clL bl).length = bl.length := by
  rcases last_cases bl with h | ⟨bl0, b, h⟩
  · rw [h]; rfl
  · rw [h]
    cases hs : b.2.2.1 with
    | true => rw [clL_t hs]
    | false => rw [clL_f hs]; simp
theorem clL_ok {bl : List Bk} {z : Int} (h1 : ∀ b ∈ bl, bkOk b ∧ (b.2.2.2.2 : Int) ≤ z) (h2 : bl.Pairwise (fun x y => x.2.2.1 = true ∧ x.2.2.2.2 < y.2.2.2.1)) : (∀ b ∈ clL bl, bkOk b ∧ (b.2.2.2.2 : Int) ≤ z ∧ b.2.2.1 = true) ∧ (clL bl).Pairwise (fun x y => x.2.2.1 = true ∧ x.2.2.2.2 < y.2.2.2.1) := by
  rcases last_cases bl with h | ⟨bl0, b, h⟩
  · rw [h, clL_nil]; exact ⟨fun b hb => absurd hb (by simp), List.Pairwise.nil⟩
  · rw [h] at h1 h2
    have hp := List.pairwise_append.mp h2
    have hb := h1 b (by simp)
    have h0 : ∀ x ∈ bl0, bkOk x ∧ (x.2.2.2.2 : Int) ≤ z ∧ x.2.2.1 = true := fun x hx => ⟨(h1 x (by simp [hx])).1, (h1 x (by simp [hx])).2, (hp.2.2 x hx b (by simp)).1⟩
    rw [h]
    cases hs : b.2.2.1 with
    | true =>
      rw [clL_t hs]
      refine ⟨fun x hx => ?_, h2⟩
      rcases List.mem_append.mp hx with hx | hx
      · exact h0 x hx
      · rw [List.mem_singleton.mp hx]; exact ⟨hb.1, hb.2, hs⟩
    | false =>
      rw [clL_f hs]
      refine ⟨fun x hx => ?_, List.pairwise_append.mpr ⟨hp.1, List.pairwise_singleton _ _, fun x hx y hy => ?_⟩⟩
      · rcases List.mem_append.mp hx with hx | hx
        · exact h0 x hx
        · rw [List.mem_singleton.mp hx]; exact ⟨cl_ok hb.1 hs, hb.2, rfl⟩
      · rw [List.mem_singleton.mp hy]; exact hp.2.2 x hx b (by simp)
theorem fitA_le {room p t : Nat} {c : Cs} {v : Int64} (hr : room ≤ 200) (h : fitA room p c t v = true) : p + costA c t v ≤ 1480 := by
  have := of_decide_eq_true h
  omega
theorem putS_ok {S S' : Sr} (h : srOk S) {t : Nat} {v : Int64} (ht1 : S.2.1 < t) (ht : t ≤ 2000000000) (e : putS S t v = some S') : srOk S' ∧ S'.2.1 = t ∧ S'.1 = S.1 ∧ S'.2.2.1 = S.2.2.1 ∧ 1 ≤ S'.2.2.2.length := by
  obtain ⟨h1, h2, h3, h4, h5, h6, h7, h8, h9, h10⟩ := h
  have hN : putN S t v = some S' → srOk S' ∧ S'.2.1 = t ∧ S'.1 = S.1 ∧ S'.2.2.1 = S.2.2.1 ∧ 1 ≤ S'.2.2.2.length := by
    intro e
    unfold putN at e
    split at e
    · cases e
    · rename_i c
      cases e
      obtain ⟨g1, g2⟩ := clL_ok h9 h10
      have gl := clL_len S.2.2.2
      refine ⟨⟨h1, h2, by show -1 ≤ (t : Int); omega, by show (t : Int) ≤ _; omega, h5, h6, fun q hq => ?_, ?_, fun b hb => ?_, ?_⟩, rfl, rfl, rfl, by simp⟩
      · have := h7 q hq; show (q.1 : Int) ≤ t; omega
      · show (clL S.2.2.2 ++ [nwB t v]).length ≤ 16; simp; omega
      · rcases List.mem_append.mp hb with hb | hb
        · have := g1 b hb; exact ⟨this.1, by show (b.2.2.2.2 : Int) ≤ t; omega⟩
        · rw [List.mem_singleton.mp hb]; exact ⟨nwB_ok ht v, Int.le_refl _⟩
      · refine List.pairwise_append.mpr ⟨g2, List.pairwise_singleton _ _, fun x hx y hy => ?_⟩
        rw [List.mem_singleton.mp hy]
        have := g1 x hx
        refine ⟨this.2.2, ?_⟩
        show x.2.2.2.2 < t
        omega
  unfold putS at e
  rcases last_cases S.2.2.2 with hb | ⟨bl0, b, hb⟩
  · rw [hb, opA_nil] at e
    exact hN e
  · have hbm := h9 b (by rw [hb]; simp)
    cases hs : b.2.2.1 with
    | true =>
      rw [hb, opA_t hs] at e
      exact hN e
    | false =>
      obtain ⟨p, c, l, hr, ho⟩ := ok_open hbm.1 hs
      rw [hb, opA_f hs hr] at e
      dsimp only at e
      split at e
      · rename_i hf
        rw [List.getLast?_concat] at e
        dsimp only at e
        rw [List.dropLast_concat] at e
        cases e
        have hfa := rs_facts hbm.1 hr
        have hw := wr_ok (v := v) hbm.1 hs hr (by have := hbm.2; omega) ht (fitA_le h2 hf)
        rw [hb] at h9 h10 h8
        have hp := List.pairwise_append.mp h10
        refine ⟨⟨h1, h2, by show -1 ≤ (t : Int); omega, by show (t : Int) ≤ _; omega, h5, h6, fun q hq => ?_, ?_, fun x hx => ?_, ?_⟩, rfl, rfl, rfl, by simp⟩
        · have := h7 q hq; show (q.1 : Int) ≤ t; omega
        · show (bl0 ++ [wrB b p c t v]).length ≤ 16; simpa using h8
        · rcases List.mem_append.mp hx with hx | hx
          · have := h9 x (by simp [hx]); exact ⟨this.1, by show (x.2.2.2.2 : Int) ≤ t; omega⟩
          · rw [List.mem_singleton.mp hx]; exact ⟨hw.1, Int.le_refl _⟩
        · refine List.pairwise_append.mpr ⟨hp.1, List.pairwise_singleton _ _, fun x hx y hy => ?_⟩
          rw [List.mem_singleton.mp hy]
          exact hp.2.2 x hx b (by simp)
      · exact hN e
/-- the class weighs: does a point fit -/
theorem fits_ok {K : Kn} {m : Mem} {a : Nat} {π : Nat → Nat} {S : Sr} (hs : seS K m a π) (h : seD K m a π S) (hok : srOk S) {t : Nat} {v : Int64} (ht1 : S.2.1 < t) (ht : t ≤ 2000000000) :
    F_X7_fits K m a (nI t) v = some (match opA S.2.2.2 with
      | none => (0, m)
      | some (p, c) => (if fitA S.1 p c t v = true then 1 else 0, wgM m (a + 5) c t v)) := by
  have hob := openBlock_ok hs h hok.2.2.2.2.2.2.2.1
  obtain ⟨h1, h2, h3, h4, h5, h6, h7⟩ := id h
  obtain ⟨o1, o2, o3, o4, o5, o6, o7, o8, o9, o10⟩ := hok
  unfold F_X7_fits f_X7_fits
  rw [hob, bind_e]
  rcases last_cases S.2.2.2 with hb | ⟨bl0, b, hb⟩
  · rw [hb]; rfl
  · have hlen : S.2.2.2.length = bl0.length + 1 := by rw [hb]; simp
    have hgl : S.2.2.2.getLast? = some b := by rw [hb, List.getLast?_concat]
    have hbm := o9 b (by rw [hb]; simp)
    rw [hgl]
    dsimp only
    cases hse : b.2.2.1 with
    | true =>
      rw [hb, opA_t hse, if_pos rfl]; rfl
    | false =>
      obtain ⟨p, c, l, hr, ho⟩ := ok_open hbm.1 hse
      have hfa := rs_facts hbm.1 hr
      have hco := h7 b p c l hgl hse hr
      rw [hb, opA_f hse hr, ← hb, if_neg (show ¬ false = true by decide), caseO_v]
      have hk16 : S.2.2.2.length - 1 < 16 := by omega
      have hbk := h6 (S.2.2.2.length - 1) b (by rw [hlen, hb, Nat.add_sub_cancel]; exact get_last bl0 b)
      rw [gd_t hbk.2.1, ldO_n hs.2.2.2.1 hs.1.2.2.2.2.2.1, bind_e, weigh_ok hco hfa.2.2.2.2.1 (by omega) ht, bind_e]
      have hoff := wg_off m (a + 5) c t v
      have hπ := (hs.2.2.2.2.2.2.1 _ hk16).1
      rw [ldO_n (b := a + 5) ((hoff.R (show a ≠ a + 5 by omega)).trans hs.2.2.2.1) hs.1.2.2.2.2.2.1, bind_e]
      have t9 := hbk.2.2.2.2.2.2.2.2
      rw [hr] at t9
      rw [hoff.I (show a + 6 + 2 * π (S.2.2.2.length - 1) ≠ a + 5 by omega), t9.2.2.1, (wg_we m (a + 5) c t v).2.2.2.2.2.1, nI_add, hoff.I (show a ≠ a + 5 by omega), h2]
      have hcl := costA_le hfa.2.2.2.2.1 t v
      rw [sealedBytes_ok (by dsimp only; omega), bind_e]
      dsimp only
      unfold fitA
      by_cases cf : 14 + (p + costA c t v + 7) / 8 + 1 ≤ S.1
      · rw [if_neg (fun z => by rw [nI_ltI (by omega) (by omega)] at z; omega), decide_eq_true cf]; rfl
      · rw [if_pos ((nI_ltI (by omega) (by omega)).mpr (by omega)), decide_eq_false cf]; rfl
