/-! ===== the class: a point comes, a series begins ===== -/
def seB (K : Kn) (m : Mem) (a : Nat) (π : Nat → Nat) (bl : List Bk) : Prop := ∀ (k : Nat) (b : Bk), bl[k]? = some b → bkR K m (a + 6 + 2 * π k) b
theorem seB_snoc {K : Kn} {m m' : Mem} {a : Nat} {π : Nat → Nat} {bl0 : List Bk} {b' : Bk} (hs : seS K m a π) (hl : bl0.length < 16) (h : seB K m a π bl0) (e : eqOn (off (a + 6 + 2 * π bl0.length) 2) m m') (hb : bkR K m' (a + 6 + 2 * π bl0.length) b') : seB K m' a π (bl0 ++ [b']) := by
  intro k x hk
  rw [List.getElem?_append] at hk
  by_cases c : k < bl0.length
  · rw [if_pos c] at hk
    have h1 := hs.2.2.2.2.2.2.1 k (by omega)
    have h2 := hs.2.2.2.2.2.2.1 bl0.length hl
    have hne : π k ≠ π bl0.length := fun z => by have := hs.2.2.2.2.2.2.2.1 k bl0.length (by omega) hl z; omega
    exact (h k x hk).on e (by unfold off; omega) (by unfold off; omega)
  · rw [if_neg c] at hk
    have hi : k - bl0.length = 0 := by
      have := (List.getElem?_eq_some_iff.mp hk).1
      simp at this; omega
    rw [hi] at hk
    simp at hk
    rw [← hk, show k = bl0.length by omega]
    exact hb
theorem seB_pre {K : Kn} {m : Mem} {a : Nat} {π : Nat → Nat} {bl0 : List Bk} {b : Bk} (h : seB K m a π (bl0 ++ [b])) : seB K m a π bl0 := fun k x hk => h k x (by
  rw [List.getElem?_append, if_pos (List.getElem?_eq_some_iff.mp hk).1]; exact hk)
theorem seB_on {p : Nat → Prop} {K : Kn} {m m' : Mem} {a : Nat} {π : Nat → Nat} {bl : List Bk} (hs : seS K m a π) (hl : bl.length ≤ 16) (h : seB K m a π bl) (e : eqOn p m m') (hp : insr (a + 6) 32 p) : seB K m' a π bl := by
  intro k x hk
  have hk16 : k < 16 := by have := (List.getElem?_eq_some_iff.mp hk).1; omega
  have := (hs.2.2.2.2.2.2.1 k hk16).1
  exact (h k x hk).on e (hp _ (by omega) (by omega)) (hp _ (by omega) (by omega))
theorem seS_blk {K : Kn} {m m' : Mem} {a j : Nat} {π : Nat → Nat} (hs : seS K m a π) (hj : j < 16) (e : eqOn (off (a + 6 + 2 * j) 2) m m') (h0 : gR m' (a + 6 + 2 * j) 0 = some (a + 6 + 2 * j + 1)) : seS K m' a π := by
  obtain ⟨h1, h2, h3, h4, h5, h6, h7, h8, h9⟩ := hs
  refine ⟨h1, (e.R (by unfold off; omega)).trans h2, (e.R (by unfold off; omega)).trans h3, (e.R (by unfold off; omega)).trans h4, (e.R (by unfold off; omega)).trans h5, (e.R (by unfold off; omega)).trans h6, fun k hk => ⟨(h7 k hk).1, (e.R (by unfold off; omega)).trans (h7 k hk).2⟩, h8, fun i hi => ?_⟩
  by_cases c : i = j
  · rw [c]; exact h0
  · exact (e.R (by unfold off; omega)).trans (h9 i hi)
/-- the open block is sealed, if there is one -/
theorem closeOpen_ok {K : Kn} {m : Mem} {a : Nat} {π : Nat → Nat} {S : Sr} (hs : seS K m a π) (h : seD K m a π S) (hok : srOk S) : ∃ m', F_X7_closeOpen K m a = some m' ∧ seB K m' a π (clL S.2.2.2) ∧ eqOn (off (a + 6) 32) m m' ∧ seS K m' a π ∧ szm m' = szm m := by
  have hob := openBlock_ok hs h hok.2.2.2.2.2.2.2.1
  obtain ⟨h1, h2, h3, h4, h5, h6, h7⟩ := id h
  obtain ⟨o1, o2, o3, o4, o5, o6, o7, o8, o9, o10⟩ := hok
  unfold F_X7_closeOpen f_X7_closeOpen
  rw [hob, bind_e]
  rcases last_cases S.2.2.2 with hb | ⟨bl0, b, hb⟩
  · rw [hb]; exact ⟨m, rfl, fun k x hk => by simp [clL_nil] at hk, eqOn.refl m, hs, rfl⟩
  · have hlen : S.2.2.2.length = bl0.length + 1 := by rw [hb]; simp
    have hgl : S.2.2.2.getLast? = some b := by rw [hb, List.getLast?_concat]
    have hbm := o9 b (by rw [hb]; simp)
    rw [hgl]
    dsimp only
    cases hse : b.2.2.1 with
    | true =>
      rw [if_pos rfl, caseO_n, hb, clL_t hse, ← hb]
      exact ⟨m, rfl, h6, eqOn.refl m, hs, rfl⟩
    | false =>
      rw [if_neg (show ¬ false = true by decide), caseO_v, hlen, Nat.add_sub_cancel]
      have hbk := h6 bl0.length b (by rw [hb]; exact get_last bl0 b)
      rw [gd_t hbk.2.1]
      obtain ⟨m', e1, e2, e3, e4⟩ := close_bk hbk hbm.1 hse
      have hπ := (hs.2.2.2.2.2.2.1 bl0.length (by omega)).1
      rw [e1, bind_e, hb, clL_f hse]
      have hpre : seB K m a π bl0 := by
        have h6' : seB K m a π S.2.2.2 := h6
        rw [hb] at h6'
        exact seB_pre h6'
      refine ⟨m', rfl, seB_snoc hs (by omega) hpre e3 e2, e3.mono (fun q hq => by unfold off at hq ⊢; omega), seS_blk hs hπ e3 e2.1, e4⟩
theorem start_ok {K : Kn} {m : Mem} {a : Nat} {π : Nat → Nat} (hs : seS K m a π) {room : Nat} : ∃ m', F_X7_start K m a (nI room) = some m' ∧ seS K m' a π ∧ seD K m' a π (room, -1, [], []) ∧ eqOn (off a 38) m m' ∧ szm m' = szm m := by
  unfold F_X7_start f_X7_start
  simp only [bd_e]
  rw [ldO_n (b := a + 2) (by exact hs.2.2.1) hs.1.2.2.1, bind_e]
  refine ⟨_, rfl, hs.onR (fun _ _ _ _ => rfl), ⟨?_, ?_, ?_, ?_, ?_, fun k b hk => by simp at hk, fun b p c l hk => by simp at hk⟩, fun q hq k => ?_, rfl⟩
  · rw [gI_sI_n (Or.inl (by omega))]; simp [gI_sIa]
  · rw [gI_sI_n (Or.inl (by omega))]; simp [gI_sIa]
  · rw [gI_sI_n (Or.inl (by omega))]; simp [gI_sIa]; rfl
  · rw [gI_sI_n (Or.inl (by omega))]; simp [gI_sIa]; rfl
  · exact ⟨hs.2.2.2.2.1, hs.2.2.2.2.2.1, hs.1.2.2.1, hs.1.2.2.2.1, hs.1.2.2.2.2.1, gI_sI_s, Nat.zero_le _, by omega, fun i q hq => by simp at hq⟩
  · have : q ≠ a ∧ q ≠ a + 2 := by unfold off at hq; omega
    exact ⟨by simp only [gI_sI_n (Or.inl this.1), gI_sI_n (Or.inl this.2)], rfl, rfl⟩
