/-! ===== calls of the reference over blocks: count, ways, dearest; blocks that are opened ===== -/
theorem bscan {K : Kn} {A j : Nat} {S : Sr} (hj : j < 4) (hS : srOk S) {β γ : Type} (G : Nat → Mem → β → Nat → γ) (st : β → Nat → Bk → β) (I : β → Prop) (hI : ∀ x k b, S.2.2.2[k]? = some b → I x → I (st x k b)) (hB : ∀ n m x k b, S.2.2.2[k]? = some b → MS K m A → smR m A j S → I x → ∃ m', G (n + 1) m x k = G n m' (st x k b) (k + 1) ∧ KP A m m') : ∀ (n k : Nat) (m : Mem) (x : β), k ≤ S.2.2.2.length → S.2.2.2.length - k < n → MS K m A → smR m A j S → I x → ∃ m' n', G n m x k = G (n' + 1) m' (foldI st x k (S.2.2.2.drop k)) S.2.2.2.length ∧ KP A m m' ∧ MS K m' A ∧ smR m' A j S ∧ I (foldI st x k (S.2.2.2.drop k))
  | 0, _, _, _, _, h, _, _, _ => absurd h (Nat.not_lt_zero _)
  | n + 1, k, m, x, hk, hn, h, hm, hx => by
    by_cases c : k = S.2.2.2.length
    · subst c
      rw [List.drop_eq_nil_of_le (Nat.le_refl _)]
      exact ⟨m, n, rfl, KP.refl A m, h, hm, hx⟩
    · obtain ⟨b, hb⟩ := get_some (l := S.2.2.2) (i := k) (by omega)
      obtain ⟨m1, e1, e2⟩ := hB n m x k b hb h hm hx
      obtain ⟨m2, n2, g1, g2, g3⟩ := bscan hj hS G st I hI hB n (k + 1) m1 (st x k b) (by omega) (by omega) (h.on e2.1) (hm.keep hS hj e2) (hI x k b hb hx)
      rw [e1, g1, drop_get hb]
      exact ⟨m2, n2, rfl, e2.trans g2, g3⟩
theorem scanT {α β γ : Type} (i0 : Nat) (l : List α) (G : Nat → β → Nat → γ) (st : β → Nat → α → β) (I : β → Prop) (fin : β → γ) (hI : ∀ x i a, i0 ≤ i → l[i]? = some a → I x → I (st x i a)) (hB : ∀ n x i a, i0 ≤ i → l[i]? = some a → I x → G (n + 1) x i = G n (st x i a) (i + 1)) (hE : ∀ n x i, l.length ≤ i → i ≤ l.length + 1 → I x → G (n + 1) x i = fin x) : ∀ n i x, i0 ≤ i → i ≤ l.length + 1 → l.length - i < n → I x → G n x i = fin (foldI st x i (l.drop i))
  | 0, _, _, _, _, h, _ => absurd h (Nat.not_lt_zero _)
  | n + 1, i, x, h0, hi, hn, hx => by
    by_cases c : l.length ≤ i
    · rw [hE n x i c hi hx, List.drop_eq_nil_of_le c]; rfl
    · obtain ⟨a, ha⟩ := get_some (l := l) (i := i) (by omega)
      rw [hB n x i a h0 ha hx, scanT i0 l G st I fin hI hB hE n (i + 1) _ (by omega) (by omega) (by omega) (hI x i a h0 ha hx), drop_get ha]; rfl
theorem or_0 (x : Int32) : x ||| (0 : Int32) = x := by
  apply Int32.toBitVec_inj.mp
  rw [Int32.toBitVec_or]; simp
theorem add_0 (x : Int32) : x + (0 : Int32) = x := Int32.add_zero x
theorem blk_m {K : Kn} {m : Mem} {A j : Nat} {S : Sr} (h : MS K m A) (hj : j < 4) (hS : srOk S) (hm : smR m A j S) {k : Nat} {b : Bk} (hb : S.2.2.2[k]? = some b) : (¬ gI m (A + 3) j ≤ nI k) ∧ bkOk b ∧ mbR m A (16 * j + k) b ∧ 16 * j + k < 64 ∧ (16 : Int32) * nI j + nI k = nI (16 * j + k) := by
  have h16 := hS.2.2.2.2.2.2.2.1
  have hk := (List.getElem?_eq_some_iff.mp hb).1
  refine ⟨?_, (hS.2.2.2.2.2.2.2.2.1 b (List.mem_of_getElem? hb)).1, hm.2.2.2.1 k b hb, by omega, ?_⟩
  · rw [hm.2.2.1]
    exact fun z => by have := (nI_leI (by omega) (by omega)).mp z; omega
  · rw [show (16 : Int32) = nI 16 from rfl, nI_mul, nI_add]
theorem blk_n {m : Mem} {A j : Nat} {S : Sr} (hS : srOk S) (hm : smR m A j S) : gI m (A + 3) j ≤ nI S.2.2.2.length := by
  have h16 := hS.2.2.2.2.2.2.2.1
  rw [hm.2.2.1]
  exact (nI_leI (by omega) (by omega)).mpr (Nat.le_refl _)
theorem mcount_ok {K : Kn} {m : Mem} {A : Nat} {s : St} (hok : stOk s) (h : RM K m A s) (x w : Int32) : okM K m A (F_X9_count K m A x w) (aCount s x w) s := by
  unfold F_X9_count f_X9_count aCount
  rcases isSeries_ok hok h x with ⟨hs, hn⟩ | ⟨S, hs, hn⟩
  · rw [hn, hs, bind_e, if_pos rfl]; exact okM.same h
  · rw [hn, hs, bind_e, if_neg (by decide)]
    dsimp only
    obtain ⟨j, hj, rfl, hsj, hS, hm⟩ := h.at hok hs
    have h16 := hS.2.2.2.2.2.2.2.1
    obtain ⟨m1, n1, e1, e2, e3, e4, -⟩ := bscan (K := K) (A := A) hj hS (fun n m (x : Int32 × Int32) k => f_X9_count_19 K A (nI j) w n m x.1 x.2 (nI k)) (fun x k b => ((if sndB b = true then x.1 + nI (ptsB b).length else x.1), (if sndB b = true then x.2 else x.2 ||| ((1 : Int32) <<< (nI k &&& 31))))) (fun _ => True) (fun _ _ _ _ _ => trivial) (fun n m x k b hb hM hm _ => by
      obtain ⟨b1, b2, b3, b4, b5⟩ := blk_m hM hj hS hm hb
      show ∃ m', f_X9_count_19B K A (nI j) w (f_X9_count_19 K A (nI j) w n) m x.1 x.2 (nI k) = _ ∧ _
      unfold f_X9_count_19B f_X9_count_57 f_X9_count_74
      obtain ⟨m', r1, r2, r3, r4⟩ := isBroken_ok hM b4 b2 b3
      rw [hM.d2, bind_e, hM.g2 (by omega), bind_e, if_neg b1, b5, r1, bind_e, bd_e]
      refine ⟨m', ?_, r2⟩
      cases hsb : sndB b with
      | true =>
        obtain ⟨p, c, hr⟩ := snd_rs hsb
        rw [hr] at r4
        simp only [if_true, bd_e, or_0, nI_1]
        rw [r4.2.2.1]
      | false =>
        simp only [if_neg (show ¬ (false = true) by decide), if_neg (show ¬ ((1 : Int32) = 0) by decide), bd_e, add_0, nI_1]) FU 0 m (0, 0) (Nat.zero_le _) (by rw [FU_e]; omega) h.1 hm trivial
    have e1' : f_X9_count_19 K A (nI j) w FU m (0 : Int32) (0 : Int32) (0 : Int32) = _ := e1
    rw [e1', List.drop_zero]
    have pr : ∀ (bl : List Bk) (i : Nat) (x : Int32 × Int32), foldI (fun (x : Int32 × Int32) k b => ((if sndB b = true then x.1 + nI (ptsB b).length else x.1), (if sndB b = true then x.2 else x.2 ||| ((1 : Int32) <<< (nI k &&& 31))))) x i bl = (foldI (fun (x : Int32) _ b => if sndB b = true then x + nI (ptsB b).length else x) x.1 i bl, foldI (fun (x : Int32) i b => if sndB b = true then x else x ||| ((1 : Int32) <<< (nI i &&& 31))) x.2 i bl) := by
      intro bl
      induction bl with
      | nil => intro i x; rfl
      | cons b bl ih => intro i x; exact ih (i + 1) _
    rw [pr]
    show okM K m A (f_X9_count_19B K A (nI j) w (f_X9_count_19 K A (nI j) w n1) m1 (spA S.2.2.2) (brkA S.2.2.2) (nI S.2.2.2.length)) _ s
    unfold f_X9_count_19B f_X9_count_136 f_X9_count_143 f_X9_count_145 f_X9_count_152 f_X9_count_159 f_X9_count_165 f_X9_count_168 f_X9_count_173
    rw [e3.d2, bind_e, e3.g2 (by omega), bind_e, if_pos (blk_n hS e4)]
    obtain ⟨m2, r1, r2, r3, r4⟩ := gathers_ok e3 hj hS e4
    rw [r1, bind_e]
    have k2 := e2.trans r2
    have hS2 := e3.on r2.1
    have hm2 := e4.keep hS hj r2
    have hf : ∀ v : Int32, okM K m A (some (v, m2)) v s := fun v => okM.kp hok h k2
    by_cases w0 : w = 0
    · subst w0
      rw [if_pos rfl, if_neg (by decide), if_pos (by decide), if_pos rfl, hS2.d0, bind_e, hS2.g0 (by omega), bind_e, hm2.1]; exact hf _
    rw [if_neg w0]
    by_cases w1 : w = 1
    · subst w1
      rw [if_pos rfl, if_neg (by decide), if_pos (by decide), if_neg (by decide), if_pos rfl]; exact hf _
    rw [if_neg w1]
    by_cases w2 : w = 2
    · subst w2
      rw [if_pos rfl, if_neg (by decide), if_pos (by decide), if_neg (by decide), if_neg (by decide), if_pos rfl, hS2.d2, bind_e, hS2.g2 (by omega), bind_e, hm2.2.2.1]; exact hf _
    rw [if_neg w2]
    by_cases w3 : w = 3
    · subst w3
      obtain ⟨-, -, -, -, L, l1, l2, -⟩ := hm2
      rw [if_pos rfl, if_neg (by decide), if_pos (by decide), if_neg (by decide), if_neg (by decide), if_neg (by decide), if_pos rfl, hS2.d9, bind_e, hS2.g9 (by omega), bind_e, l2, l1.length_eq]; exact hf _
    rw [if_neg w3]
    by_cases w4 : w = 4
    · subst w4
      rw [if_pos rfl, if_neg (by decide), if_pos (by decide), if_neg (by decide), if_neg (by decide), if_neg (by decide), if_neg (by decide), if_pos rfl, bytesOf_loop hS2 (by omega) h16 hm2.2.2.1 (fun k b hb => (hm2.2.2.2.1 k b hb).2.1), bind_e]; exact hf _
    rw [if_neg w4]
    by_cases w5 : w = 5
    · subst w5
      rw [if_pos rfl, if_neg (by decide), if_pos (by decide), if_neg (by decide), if_neg (by decide), if_neg (by decide), if_neg (by decide), if_neg (by decide), if_pos rfl]; exact hf _
    rw [if_neg w5]
    by_cases w6 : w = 6
    · subst w6
      rw [if_pos rfl, if_neg (by decide), if_pos (by decide), if_neg (by decide), if_neg (by decide), if_neg (by decide), if_neg (by decide), if_neg (by decide), if_neg (by decide), if_pos rfl, r4.1]; exact hf _
    rw [if_neg w6]
    by_cases w7 : w = 7
    · subst w7
      rw [if_pos rfl, if_neg (by decide), if_pos (by decide), if_neg (by decide), if_neg (by decide), if_neg (by decide), if_neg (by decide), if_neg (by decide), if_neg (by decide), if_neg (by decide), hS2.d1, bind_e, hS2.g1 (by omega), bind_e, hm2.2.1]; exact hf _
    rw [if_neg w7]
    by_cases c1 : w < 0
    · rw [if_pos c1]; exact hf _
    rw [if_neg c1]
    by_cases c2 : w ≤ (7 : Int32)
    · exfalso
      obtain ⟨n, hn2, rfl, -⟩ := idx_nI c1
      have c3 : n ≤ 7 := (nI_leI (b := 7) (by omega) (by omega)).mp c2
      rcases (show n = 0 ∨ n = 1 ∨ n = 2 ∨ n = 3 ∨ n = 4 ∨ n = 5 ∨ n = 6 ∨ n = 7 by omega) with z | z | z | z | z | z | z | z <;> subst z
      · exact w0 rfl
      · exact w1 rfl
      · exact w2 rfl
      · exact w3 rfl
      · exact w4 rfl
      · exact w5 rfl
      · exact w6 rfl
      · exact w7 rfl
    · rw [if_neg c2]; exact hf _
theorem cwF_add (w : Int32) : ∀ (l : List PtR) (i : Nat) (x : Int32), foldI (cwF w) x i l = x + foldI (cwF w) 0 i l
  | [], _, x => by show x = x + 0; rw [add_0]
  | q :: l, i, x => by
    show foldI (cwF w) (cwF w x i q) (i + 1) l = x + foldI (cwF w) (cwF w 0 i q) (i + 1) l
    rw [cwF_add w l (i + 1) (cwF w x i q), cwF_add w l (i + 1) (cwF w 0 i q), ← Int32.add_assoc]
    congr 1
    unfold cwF
    split
    · rw [Int32.zero_add]
    · rw [add_0]
theorem counted_36 {K : Kn} {m : Mem} {A k : Nat} {x1 w x : Int32} {k5 : Mem → Int32 → Int32 → Option (Int32 × Mem)} {pts : List PtR} (h : MS K m A) (hl : pts.length ≤ 800) (h26 : gI m A 26 = nI pts.length) (har : arM m A pts) : f_X9_counted_36 K A x1 w k5 FU m x (nI k) (1 : Int32) = k5 m (x + cwA w pts) (nI (k + 1)) := by
  unfold cwA
  rw [← cwF_add]
  have := scanT 1 pts (fun n (x : Int32) i => f_X9_counted_36 K A x1 w k5 n m x (nI k) (nI i)) (cwF w) (fun _ => True) (fun x => k5 m x (nI (k + 1))) (fun _ _ _ _ _ _ => trivial) (fun n x i q h1 hi _ => ?_) (fun n x i hi hi2 _ => ?_) FU 1 x (by omega) (by omega) (by rw [FU_e]; omega) trivial
  · exact this
  · have hil := (List.getElem?_eq_some_iff.mp hi).1
    obtain ⟨-, -, a3⟩ := har i q hi
    obtain ⟨-, a4, a5⟩ := a3 h1
    show f_X9_counted_36B K A x1 w k5 (f_X9_counted_36 K A x1 w k5 n) m x (nI k) (nI i) = _
    unfold f_X9_counted_36B f_X9_counted_68 f_X9_counted_73
    rw [h26, if_neg (fun z => by have := (nI_leI (by omega) (by omega)).mp z; omega), h.d24, bind_e, h.g24 (by omega), bind_e, a4, h.d25, bind_e, h.g25 (by omega), bind_e, a5]
    simp only [bd_e, nI_1]
    unfold cwF
    by_cases c1 : nI q.2.2.2.1 = w
    · rw [if_pos c1, if_pos (Or.inl c1.symm)]
    rw [if_neg c1]
    by_cases c2 : nI q.2.2.2.2 = w
    · rw [if_pos c2, if_pos (Or.inr c2.symm)]
    · rw [if_neg c2, if_neg (fun z => z.elim (fun z => c1 z.symm) (fun z => c2 z.symm)), add_0]
  · show f_X9_counted_36B K A x1 w k5 (f_X9_counted_36 K A x1 w k5 n) m x (nI k) (nI i) = _
    unfold f_X9_counted_36B f_X9_counted_81
    rw [h26, if_pos ((nI_leI (by omega) (by omega)).mpr hi), bd_e, nI_1]
theorem mways_ok {K : Kn} {m : Mem} {A : Nat} {s : St} (hok : stOk s) (h : RM K m A s) (x w : Int32) : okM K m A (F_X9_ways K m A x w) (aWays s x w) s := by
  unfold F_X9_ways f_X9_ways f_X9_ways_29 aWays
  rcases isSeries_ok hok h x with ⟨hs, hn⟩ | ⟨S, hs, hn⟩
  · rw [hn, hs, bind_e, if_pos rfl]; exact okM.same h
  · rw [hn, hs, bind_e, if_neg (by decide)]
    dsimp only
    rcases in_w 7 (by decide) w with ⟨hi, c1 | ⟨c1, c2⟩⟩ | ⟨hi, c1, c2⟩
    · have hi : F_X9_in w.toInt64 (0 : Int64) (7 : Int64) = some 0 := hi
      rw [hi, bind_e, if_pos rfl, if_pos c1]; exact okM.same h
    · have hi : F_X9_in w.toInt64 (0 : Int64) (7 : Int64) = some 0 := hi
      have c2 : ¬ w ≤ (7 : Int32) := c2
      rw [hi, bind_e, if_pos rfl, if_neg c1, if_neg c2]; exact okM.same h
    · have hi : F_X9_in w.toInt64 (0 : Int64) (7 : Int64) = some 1 := hi
      have c2 : w ≤ (7 : Int32) := c2
      rw [hi, bind_e, if_neg (by decide), if_neg c1, if_pos c2]
      unfold F_X9_counted f_X9_counted
      obtain ⟨j, hj, rfl, hsj, hS, hm⟩ := h.at hok hs
      have h16 := hS.2.2.2.2.2.2.2.1
      obtain ⟨m1, n1, e1, e2, e3, e4, -⟩ := bscan (K := K) (A := A) hj hS (fun n m (x : Int32) k => f_X9_counted_5 K A (nI j) w n m x (nI k)) (wayF w) (fun _ => True) (fun _ _ _ _ _ => trivial) (fun n m x k b hb hM hm _ => by
        obtain ⟨b1, b2, b3, b4, b5⟩ := blk_m hM hj hS hm hb
        show ∃ m', f_X9_counted_5B K A (nI j) w (f_X9_counted_5 K A (nI j) w n) m x (nI k) = _ ∧ _
        unfold f_X9_counted_5B f_X9_counted_81 wayF
        obtain ⟨m', r1, r2, r3, r4⟩ := isBroken_ok hM b4 b2 b3
        rw [hM.d2, bind_e, hM.g2 (by omega), bind_e, if_neg b1, b5, r1, bind_e]
        refine ⟨m', ?_, r2⟩
        cases hsb : sndB b with
        | true =>
          obtain ⟨p, c, hr⟩ := snd_rs hsb
          rw [hr] at r4
          dsimp only
          have h737 := (ptsB_facts b2).2.2
          rw [if_pos rfl, if_pos rfl, if_pos rfl, counted_36 (pts := ptsB b) (hM.on r3) (by omega) r4.2.2.1 r4.2.2.2.2.2.2]
        | false =>
          dsimp only
          rw [if_neg (show ¬ (false = true) by decide), if_neg (by decide), if_neg (show ¬ (false = true) by decide), bd_e, nI_1]) FU 0 m 0 (Nat.zero_le _) (by rw [FU_e]; omega) h.1 hm trivial
      have e1' : f_X9_counted_5 K A (nI j) w FU m (0 : Int32) (0 : Int32) = _ := e1
      rw [e1', List.drop_zero]
      show okM K m A ((f_X9_counted_5B K A (nI j) w (f_X9_counted_5 K A (nI j) w n1) m1 (foldI (wayF w) 0 0 S.2.2.2) (nI S.2.2.2.length)).bind _) _ s
      unfold f_X9_counted_5B
      rw [e3.d2, bind_e, e3.g2 (by omega), bind_e, if_pos (blk_n hS e4), bind_e]
      exact okM.kp hok h e2
theorem dearest_60 {K : Kn} {m : Mem} {A k : Nat} {x1 w : Int32} {x : Nat × Int32} {k29 : Mem → Int32 → Int32 → Int32 → Option (Int32 × Mem)} {pts : List PtR} (h : MS K m A) (hl : pts.length ≤ 800) (h26 : gI m A 26 = nI pts.length) (har : arM m A pts) (hc : ∀ q ∈ pts, q.2.2.1 ≤ 1480) (hx : x.1 ≤ 1480) : f_X9_dearest_60 K A x1 w k29 FU m (nI x.1) x.2 (nI k) (1 : Int32) = k29 m (nI (deA x pts).1) (deA x pts).2 (nI (k + 1)) := by
  unfold deA
  have := scanT 1 pts (fun n (x : Nat × Int32) i => f_X9_dearest_60 K A x1 w k29 n m (nI x.1) x.2 (nI k) (nI i)) deF (fun x => x.1 ≤ 1480) (fun x => k29 m (nI x.1) x.2 (nI (k + 1))) (fun x i q _ hq hx => ?_) (fun n x i q h1 hi hx => ?_) (fun n x i hi hi2 _ => ?_) FU 1 x (by omega) (by omega) (by rw [FU_e]; omega) hx
  · exact this
  · unfold deF
    split
    · exact hc q (List.mem_of_getElem? hq)
    · exact hx
  · have hil := (List.getElem?_eq_some_iff.mp hi).1
    obtain ⟨a1, -, a3⟩ := har i q hi
    obtain ⟨a4, -, -⟩ := a3 h1
    have hq := hc q (List.mem_of_getElem? hi)
    show f_X9_dearest_60B K A x1 w k29 (f_X9_dearest_60 K A x1 w k29 n) m (nI x.1) x.2 (nI k) (nI i) = _
    unfold f_X9_dearest_60B f_X9_dearest_98
    rw [h26, if_neg (fun z => by have := (nI_leI (by omega) (by omega)).mp z; omega), h.d23, bind_e, h.g23 (by omega), bind_e, a4]
    simp only [bd_e, nI_1, bind_e, h.g23 (show i < 800 by omega), a4, h.d21, h.g21 (show i < 800 by omega), a1, l2i_lN]
    unfold deF
    by_cases c1 : x.1 < q.2.2.1
    · rw [if_neg (fun z => by have := (nI_leI (by omega) (by omega)).mp z; omega), if_pos c1]
    · rw [if_pos ((nI_leI (by omega) (by omega)).mpr (by omega)), if_neg c1]
  · show f_X9_dearest_60B K A x1 w k29 (f_X9_dearest_60 K A x1 w k29 n) m (nI x.1) x.2 (nI k) (nI i) = _
    unfold f_X9_dearest_60B f_X9_dearest_104
    rw [h26, if_pos ((nI_leI (by omega) (by omega)).mpr hi), bd_e, nI_1]
theorem mdearest_ok {K : Kn} {m : Mem} {A : Nat} {s : St} (hok : stOk s) (h : RM K m A s) (x w : Int32) : okM K m A (F_X9_dearest K m A x w) (aDearest s x w) s := by
  unfold F_X9_dearest f_X9_dearest aDearest
  rcases isSeries_ok hok h x with ⟨hs, hn⟩ | ⟨S, hs, hn⟩
  · rw [hn, hs, bind_e, if_pos rfl]; exact okM.same h
  · rw [hn, hs, bind_e, if_neg (by decide)]
    dsimp only
    rcases in_w 1 (by decide) w with ⟨hi, c1 | ⟨c1, c2⟩⟩ | ⟨hi, c1, c2⟩
    · have hi : F_X9_in w.toInt64 (0 : Int64) (1 : Int64) = some 0 := hi
      rw [hi, bind_e, if_pos rfl, if_pos c1]; exact okM.same h
    · have hi : F_X9_in w.toInt64 (0 : Int64) (1 : Int64) = some 0 := hi
      have c2 : ¬ w ≤ (1 : Int32) := c2
      rw [hi, bind_e, if_pos rfl, if_neg c1, if_neg c2]; exact okM.same h
    · have hi : F_X9_in w.toInt64 (0 : Int64) (1 : Int64) = some 1 := hi
      have c2 : w ≤ (1 : Int32) := c2
      rw [hi, bind_e, if_neg (by decide), if_neg c1, if_pos c2]
      obtain ⟨j, hj, rfl, hsj, hS, hm⟩ := h.at hok hs
      have h16 := hS.2.2.2.2.2.2.2.1
      obtain ⟨m1, n1, e1, e2, e3, e4, e5⟩ := bscan (K := K) (A := A) hj hS (fun n m (x : Nat × Int32) k => f_X9_dearest_29 K A (nI j) w n m (nI x.1) x.2 (nI k)) deB (fun x => x.1 ≤ 1480) (fun x k b hb hx => by
        have hbok := (hS.2.2.2.2.2.2.2.2.1 b (List.mem_of_getElem? hb)).1
        unfold deB
        split
        · exact deA_le hbok hx
        · exact hx) (fun n m x k b hb hM hm hx => by
        obtain ⟨b1, b2, b3, b4, b5⟩ := blk_m hM hj hS hm hb
        show ∃ m', f_X9_dearest_29B K A (nI j) w (f_X9_dearest_29 K A (nI j) w n) m (nI x.1) x.2 (nI k) = _ ∧ _
        unfold f_X9_dearest_29B f_X9_dearest_104 deB
        obtain ⟨m', r1, r2, r3, r4⟩ := isBroken_ok hM b4 b2 b3
        rw [hM.d2, bind_e, hM.g2 (by omega), bind_e, if_neg b1, b5, r1, bind_e]
        refine ⟨m', ?_, r2⟩
        cases hsb : sndB b with
        | true =>
          obtain ⟨p, c, hr⟩ := snd_rs hsb
          rw [hr] at r4
          dsimp only
          have h737 := (ptsB_facts b2).2.2
          rw [if_pos rfl, if_pos rfl, if_pos rfl, dearest_60 (pts := ptsB b) (hM.on r3) (by omega) r4.2.2.1 r4.2.2.2.2.2.2 (fun q hq => (pts_costs b2 q hq).1) hx]
        | false =>
          dsimp only
          rw [if_neg (show ¬ (false = true) by decide), if_neg (by decide), if_neg (show ¬ (false = true) by decide), bd_e, nI_1]) FU 0 m (0, -1) (Nat.zero_le _) (by rw [FU_e]; omega) h.1 hm (by show 0 ≤ 1480; omega)
      have e1' : f_X9_dearest_29 K A (nI j) w FU m (0 : Int32) (-1 : Int32) (0 : Int32) = _ := e1
      rw [e1', List.drop_zero]
      generalize foldI deB (0, -1) 0 S.2.2.2 = R
      show okM K m A (f_X9_dearest_29B K A (nI j) w (f_X9_dearest_29 K A (nI j) w n1) m1 (nI R.1) R.2 (nI S.2.2.2.length)) _ s
      unfold f_X9_dearest_29B
      rw [e3.d2, bind_e, e3.g2 (by omega), bind_e, if_pos (blk_n hS e4)]
      have hf : ∀ v : Int32, okM K m A (some (v, m1)) v s := fun v => okM.kp hok h e2
      by_cases c3 : R.2 = -1
      · rw [if_pos c3, c3, if_pos rfl]
        have : (if w = 0 then (-1 : Int32) else -1) = -1 := by split <;> rfl
        rw [this]; exact hf _
      · rw [if_neg c3, if_neg c3]
        by_cases w0 : w = 0
        · rw [if_pos w0, if_pos w0]; exact hf _
        · rw [if_neg w0, if_neg w0]; exact hf _
theorem openedM {K : Kn} {m : Mem} {A j : Nat} {S : Sr} (hj : j < 4) (hS : srOk S) (h : MS K m A) (hm : smR m A j S) (f t : Int32) : ∃ m', F_X9_opened K m A (nI j) f t = some (opdA S.2.2.2 f.toInt t.toInt, m') ∧ KP A m m' ∧ MS K m' A ∧ smR m' A j S := by
  unfold F_X9_opened f_X9_opened
  have h16 := hS.2.2.2.2.2.2.2.1
  obtain ⟨m1, n1, e1, e2, e3, e4, -⟩ := bscan (K := K) (A := A) hj hS (fun n m (x : Int32) k => f_X9_opened_6 K A (nI j) f t n m x (nI k)) (fun (x : Int32) _ b => if touA b f.toInt t.toInt = true then x + 1 else x) (fun _ => True) (fun _ _ _ _ _ => trivial) (fun n m x k b hb hM hm _ => by
    obtain ⟨b1, b2, b3, b4, b5⟩ := blk_m hM hj hS hm hb
    show ∃ m', f_X9_opened_6B K A (nI j) f t (f_X9_opened_6 K A (nI j) f t n) m x (nI k) = _ ∧ _
    unfold f_X9_opened_6B f_X9_opened_59 f_X9_opened_60 touA
    obtain ⟨m', r1, r2, r3, r4⟩ := isBroken_ok hM b4 b2 b3
    rw [hM.d2, bind_e, hM.g2 (by omega), bind_e, if_neg b1, b5, r1, bind_e]
    refine ⟨m', ?_, r2⟩
    cases hsb : sndB b with
    | true =>
      obtain ⟨p, c, hr⟩ := snd_rs hsb
      have hS1 := hM.on r3
      rw [hr] at r4
      obtain ⟨f1, f2, f3, f4, f5, f6, f7, f8, f9, f10, f11⟩ := rs_facts b2 hr
      have hb6 := b2.2.2.2.2.2.1
      have hb7 := b2.2.2.2.2.2.2
      have fb1 := i32b f
      have fb2 := i32b t
      dsimp only
      rw [if_pos rfl, if_pos rfl, hS1.d21, bind_e, show (0 : Int32) = nI 0 from rfl, hS1.g21 (by omega), bind_e, rs_hd b2 hr r4.2.2.2.2.2.2, r4.2.2.2.1.1, f10, iL, iL]
      have i1 : nI 0 < lg_cmp (lN b.2.2.2.1) (lZ t.toInt) ↔ ¬ (b.2.2.2.1 : Int) ≤ t.toInt := by
        show 0 < lg_cmp _ _ ↔ _
        rw [lg_cmp_gt, fa_lt64, ← lZ_nat, lZ_toInt (by omega) (by omega), lZ_toInt (by omega) (by omega)]; omega
      have i2 : lg_cmp (lN b.2.2.2.2) (lZ f.toInt) < nI 0 ↔ ¬ f.toInt ≤ (b.2.2.2.2 : Int) := by
        show lg_cmp _ _ < 0 ↔ _
        rw [lg_cmp_lt, fa_lt64, ← lZ_nat, lZ_toInt (by omega) (by omega), lZ_toInt (by omega) (by omega)]; omega
      simp only [bd_e, nI_1, Bool.true_and]
      by_cases c1 : (b.2.2.2.1 : Int) ≤ t.toInt
      · rw [if_neg (fun z => i1.mp z c1), decide_eq_true c1, Bool.true_and]
        by_cases c2 : f.toInt ≤ (b.2.2.2.2 : Int)
        · rw [if_neg (fun z => i2.mp z c2), decide_eq_true c2, if_pos rfl]
        · rw [if_pos (i2.mpr c2), decide_eq_false c2, if_neg (by decide)]
          show f_X9_opened_6 K A (nI j) f t n m' (x + 0) _ = _
          rw [add_0]
      · rw [if_pos (i1.mpr c1), decide_eq_false c1, Bool.false_and, if_neg (by decide)]
        show f_X9_opened_6 K A (nI j) f t n m' (x + 0) _ = _
        rw [add_0]
    | false =>
      dsimp only
      rw [if_neg (show ¬ (false = true) by decide), if_neg (by decide), Bool.false_and, Bool.false_and, if_neg (show ¬ (false = true) by decide), bd_e, bd_e, nI_1, add_0]) FU 0 m 0 (Nat.zero_le _) (by rw [FU_e]; omega) h hm trivial
  have e1' : f_X9_opened_6 K A (nI j) f t FU m (0 : Int32) (0 : Int32) = _ := e1
  rw [e1', List.drop_zero]
  refine ⟨m1, ?_, e2, e3, e4⟩
  show f_X9_opened_6B K A (nI j) f t (f_X9_opened_6 K A (nI j) f t n1) m1 (opdA S.2.2.2 f.toInt t.toInt) (nI S.2.2.2.length) = _
  unfold f_X9_opened_6B
  rw [e3.d2, bind_e, e3.g2 (by omega), bind_e, if_pos (blk_n hS e4)]
