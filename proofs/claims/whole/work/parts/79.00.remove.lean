/-! ===== a block goes ===== -/
def dropS (S : Sr) (w : Nat) : Sr := (S.1, S.2.1, S.2.2.1, S.2.2.2.eraseIdx w)
theorem dropS_ok {S : Sr} (h : srOk S) (w : Nat) : srOk (dropS S w) := by
  obtain ⟨h1, h2, h3, h4, h5, h6, h7, h8, h9, h10⟩ := h
  have hsub : (S.2.2.2.eraseIdx w).Sublist S.2.2.2 := List.eraseIdx_sublist S.2.2.2 w
  exact ⟨h1, h2, h3, h4, h5, h6, h7, Nat.le_trans hsub.length_le h8, fun b hb => h9 b (hsub.subset hb), h10.sublist hsub⟩
def rmπ (π : Nat → Nat) (n w k : Nat) : Nat := if k < w then π k else if k + 1 < n then π (k + 1) else if k + 1 = n then π w else π k
theorem removeL {K : Kn} {a n w : Nat} {π : Nat → Nat} (hKS : KS K a) (hπ : ∀ k, k < 16 → π k < 16) (hw : w < n) (hn : n ≤ 16) (x1 : Int32) : ∀ (f i : Nat) (m : Mem), w ≤ i → i + 1 ≤ n → n - i < f → gR m a 0 = some (a + 1) → gI m a 3 = nI n → (∀ k, k < 16 → gR m (a + 1) k = some (a + 6 + 2 * (if w ≤ k ∧ k < i then π (k + 1) else π k))) →
    ∃ m', f_X7_remove_9 K a x1 f m (a + 6 + 2 * π w) (nI i) = some (nI (n - 1), m') ∧ gI m' a 3 = nI (n - 1) ∧ (∀ k, k ≠ 3 → gI m' a k = gI m a k) ∧ (∀ k, k < 16 → gR m' (a + 1) k = some (a + 6 + 2 * rmπ π n w k)) ∧ (∀ q, q ≠ a → q ≠ a + 1 → ∀ k, gI m' q k = gI m q k ∧ gJ m' q k = gJ m q k ∧ gR m' q k = gR m q k) ∧ (∀ k, gR m' a k = gR m a k) ∧ szm m' = szm m
  | 0, _, _, _, _, h, _, _, _ => absurd h (Nat.not_lt_zero _)
  | f + 1, i, m, hi, hi2, hf, h0, h3, hr => by
    have unf : f_X7_remove_9 K a x1 (f + 1) m (a + 6 + 2 * π w) (nI i) = f_X7_remove_9B K a x1 (f_X7_remove_9 K a x1 f) m (a + 6 + 2 * π w) (nI i) := rfl
    rw [unf]
    unfold f_X7_remove_9B
    rw [h3, show nI n - (1 : Int32) = nI (n - 1) from pk_sub (b := 1) (by omega), ldA_n h0 hKS.2.1]
    by_cases c : n - 1 ≤ i
    · have : i = n - 1 := by omega
      subst this
      rw [if_pos (nI_le c (by omega)), bind_e, asO_n (lenK_of hKS.2.1) (by omega) (by omega), bind_e]
      simp only [bd_e]
      rw [gI_sR, h3, show nI n - (1 : Int32) = nI (n - 1) from pk_sub (b := 1) (by omega), gI_sI_s]
      refine ⟨_, rfl, gI_sI_s, fun k hk => by rw [gI_sI_n (Or.inr hk), gI_sR], fun k hk => ?_, fun q hq hq1 k => ⟨by rw [gI_sI_n (Or.inl hq), gI_sR], rfl, by rw [gR_sI, gR_sR_n (Or.inl hq1)]⟩, fun k => by rw [gR_sI, gR_sR_n (Or.inl (by omega))], rfl⟩
      rw [gR_sI, gR_sRa]
      unfold rmπ
      by_cases ck : k = n - 1
      · rw [if_pos ck, if_neg (by omega), if_neg (by omega), if_pos (by omega)]
      · rw [if_neg ck, hr k hk]
        by_cases cw : k < w
        · rw [if_neg (by omega), if_pos cw]
        · rw [if_neg cw]
          by_cases c2 : k + 1 < n
          · rw [if_pos (by omega), if_pos c2]
          · rw [if_neg (by omega), if_neg c2, if_neg (by omega)]
    · rw [if_neg (nI_ge (by omega) (by omega)), bind_e, bind_e, nI_1]
      have hgi : gR m (a + 1) (i + 1) = some (a + 6 + 2 * π (i + 1)) := by rw [hr (i + 1) (by omega), if_neg (by omega)]
      rw [alO_n (lenK_of hKS.2.1) (by omega) (by omega) hgi (hKS.2.2.2.2.2.2 _ (hπ _ (by omega))).1, bind_e, asO_n (lenK_of hKS.2.1) (by omega) (by omega), bind_e]
      simp only [bd_e]
      obtain ⟨m', e1, e2, e3, e4, e5, e6, e7⟩ := removeL hKS hπ hw hn x1 f (i + 1) (sR m (a + 1) i (some (a + 6 + 2 * π (i + 1)))) (by omega) (by omega) (by omega) (by rw [gR_sR_n (Or.inl (by omega))]; exact h0) h3 (fun k hk => by
        rw [gR_sRa]
        by_cases ck : k = i
        · rw [if_pos ck, if_pos (by omega), ck]
        · rw [if_neg ck, hr k hk]
          by_cases cc : w ≤ k ∧ k < i
          · rw [if_pos cc, if_pos (by omega)]
          · rw [if_neg cc, if_neg (by omega)])
      refine ⟨m', e1, e2, fun k hk => (e3 k hk).trans gI_sR, e4, fun q hq hq1 k => ?_, fun k => (e6 k).trans (by rw [gR_sR_n (Or.inl (by omega))]), e7⟩
      have := e5 q hq hq1 k
      exact ⟨this.1, this.2.1, this.2.2.trans (by rw [gR_sR_n (Or.inl hq1)])⟩
theorem remove_ok {K : Kn} {m : Mem} {a w : Nat} {S : Sr} (h : seR K m a S) (hok : srOk S) (hw : w < S.2.2.2.length) : ∃ m', F_X7_remove K m a (nI w) = some (nI (dropS S w).2.2.2.length, m') ∧ seR K m' a (dropS S w) ∧ eqOn (off a 38) m m' ∧ szm m' = szm m := by
  obtain ⟨π, hs, hd⟩ := h
  have h16 := hok.2.2.2.2.2.2.2.1
  have hlen : (S.2.2.2.eraseIdx w).length = S.2.2.2.length - 1 := List.length_eraseIdx_of_lt hw
  unfold F_X7_remove f_X7_remove
  rw [(hs.blk (k := w) (by omega)).1, bind_e, (hs.blk (k := w) (by omega)).2, bind_e]
  obtain ⟨m', e1, e2, e3, e4, e5, e6, e7⟩ := removeL hs.1 (fun k hk => (hs.2.2.2.2.2.2.1 k hk).1) hw h16 (nI w) FU w m (Nat.le_refl _) (by omega) (by rw [FU_e]; omega) hs.2.1 hd.2.2.2.1 (fun k hk => by rw [if_neg (by omega)]; exact (hs.2.2.2.2.2.2.1 k hk).2)
  have E : eqOn (fun q => q ≠ a ∧ q ≠ a + 1) m m' := fun q hq k => e5 q hq.1 hq.2 k
  have hπ := hs.2.2.2.2.2.2.1
  have hinj := hs.2.2.2.2.2.2.2.1
  refine ⟨m', by rw [e1]; unfold dropS; dsimp only; rw [hlen], ⟨rmπ π S.2.2.2.length w, ?_, ?_⟩, E.mono (fun q hq => by unfold off at hq; exact ⟨by omega, by omega⟩), e7⟩
  · obtain ⟨s1, s2, s3, s4, s5, s6, s7, s8, s9⟩ := hs
    refine ⟨s1, (e6 0).trans s2, (e6 1).trans s3, (e6 2).trans s4, (E.R ⟨by omega, by omega⟩).trans s5, (E.R ⟨by omega, by omega⟩).trans s6, fun k hk => ⟨?_, e4 k hk⟩, fun k k' hk hk' hkk => ?_, fun j hj => (E.R ⟨by omega, by omega⟩).trans (s9 j hj)⟩
    · unfold rmπ
      split
      · exact (s7 k hk).1
      split
      · exact (s7 (k + 1) (by omega)).1
      split
      · exact (s7 w (by omega)).1
      · exact (s7 k hk).1
    · unfold rmπ at hkk
      split at hkk
      · split at hkk
        · exact s8 k k' hk hk' hkk
        split at hkk
        · have := s8 k (k' + 1) hk (by omega) hkk; omega
        split at hkk
        · have := s8 k w hk (by omega) hkk; omega
        · exact s8 k k' hk hk' hkk
      split at hkk
      · split at hkk
        · have := s8 (k + 1) k' (by omega) hk' hkk; omega
        split at hkk
        · have := s8 (k + 1) (k' + 1) (by omega) (by omega) hkk; omega
        split at hkk
        · have := s8 (k + 1) w (by omega) (by omega) hkk; omega
        · have := s8 (k + 1) k' (by omega) hk' hkk; omega
      split at hkk
      · split at hkk
        · have := s8 w k' (by omega) hk' hkk; omega
        split at hkk
        · have := s8 w (k' + 1) (by omega) (by omega) hkk; omega
        split at hkk
        · omega
        · have := s8 w k' (by omega) hk' hkk; omega
      · split at hkk
        · exact s8 k k' hk hk' hkk
        split at hkk
        · have := s8 k (k' + 1) hk (by omega) hkk; omega
        split at hkk
        · have := s8 k w hk (by omega) hkk; omega
        · exact s8 k k' hk hk' hkk
  · obtain ⟨d1, d2, d3, d4, d5, d6, d7⟩ := hd
    refine ⟨(e3 6 (by decide)).trans d1, (e3 4 (by decide)).trans d2, (e3 5 (by decide)).trans d3, ?_, d5.on E ⟨by omega, by omega⟩ ⟨by omega, by omega⟩ ⟨by omega, by omega⟩, fun k b hk => ?_, fun b p c l g1 g2 g3 => ?_⟩
    · rw [e2]; unfold dropS; dsimp only; rw [hlen]
    · unfold dropS at hk
      dsimp only at hk
      rw [List.getElem?_eraseIdx] at hk
      unfold rmπ
      by_cases ck : k < w
      · rw [if_pos ck] at hk ⊢
        have := hπ k (by omega)
        exact (d6 k b hk).on E ⟨by omega, by omega⟩ ⟨by omega, by omega⟩
      · rw [if_neg ck] at hk ⊢
        have hl := (List.getElem?_eq_some_iff.mp hk).1
        rw [if_pos hl]
        have := hπ (k + 1) (by omega)
        exact (d6 (k + 1) b hk).on E ⟨by omega, by omega⟩ ⟨by omega, by omega⟩
    · unfold dropS at g1
      dsimp only at g1
      have hgl : S.2.2.2.getLast? = some b := by
        rw [List.getLast?_eq_getElem?, hlen, List.getElem?_eraseIdx] at g1
        by_cases cw : S.2.2.2.length - 1 - 1 < w
        · rw [if_pos cw] at g1
          exfalso
          have hb := (List.getElem?_eq_some_iff.mp g1)
          obtain ⟨hb1, hb2⟩ := hb
          have hp := (List.pairwise_iff_getElem.mp hok.2.2.2.2.2.2.2.2.2) (S.2.2.2.length - 1 - 1) w hb1 hw cw
          rw [hb2, g2] at hp
          exact absurd hp.1 (by decide)
        · rw [if_neg cw] at g1
          have hl := (List.getElem?_eq_some_iff.mp g1).1
          rw [List.getLast?_eq_getElem?, show S.2.2.2.length - 1 = S.2.2.2.length - 1 - 1 + 1 by omega]
          exact g1
      exact (d7 b p c l hgl g2 g3).on E ⟨by omega, by omega⟩
