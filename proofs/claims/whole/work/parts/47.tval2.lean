theorem lN_toI (n : Nat) : (lN n).toInt32 = nI n := l2i_lN n
theorem ldO_sI {K : Kn} {m : Mem} {a k b j c : Nat} {v : Int32} : ldO K (sI m a k v) b j c = ldO K m b j c := rfl
theorem ldO_sJ {K : Kn} {m : Mem} {a k b j c : Nat} {v : Int64} : ldO K (sJ m a k v) b j c = ldO K m b j c := rfl
theorem ldA_sI {K : Kn} {m : Mem} {a k b j c : Nat} {v : Int32} : ldA K (sI m a k v) b j c = ldA K m b j c := rfl
theorem ldA_sJ {K : Kn} {m : Mem} {a k b j c : Nat} {v : Int64} : ldA K (sJ m a k v) b j c = ldA K m b j c := rfl
theorem winW_b {w : Win} (h : winOk w) : winW w ≤ 64 ∧ winT w ≤ 63 := by
  cases w with
  | none => exact ⟨Nat.zero_le _, Nat.zero_le _⟩
  | some q => obtain ⟨h1, h2⟩ := h; exact ⟨by show 64 - q.1 - q.2 ≤ 64; omega, by show q.2 ≤ 63; omega⟩
/-- way 6 from where the way is known -/
def tv6 (K : Kn) (m : Mem) (a0 : Nat) : Option Mem :=
      bd (sI m a0 12 (6 : Int32)) fun m8 =>
      (ldO K m8 a0 0 1).bind fun b9 =>
      bd (sI m8 a0 14 (gI m8 b9 4)) fun m10 =>
      (ldO K m10 a0 0 1).bind fun b11 =>
      if (gI m10 b11 3) = (-1 : Int32) then
        f_X6_takeValue_87 K a0 m10 (0 : Int32)
      else
        (ldO K m10 a0 0 1).bind fun b13 =>
        f_X6_takeValue_87 K a0 m10 (((64 : Int32) - (gI m10 b13 3)) - (gI m10 a0 14))
def tv7 (K : Kn) (m : Mem) (a0 : Nat) : Option Mem :=
      bd (sI m a0 12 (7 : Int32)) fun m14 =>
      (F_X6_takeBits K m14 a0 (5 : Int32)).bind fun q15 =>
      bd (sI q15.2 a0 13 ((q15.1).toInt32)) fun m16 =>
      (F_X6_takeBits K m16 a0 (6 : Int32)).bind fun q17 =>
      bd (((q17.1).toInt32) + (1 : Int32)) fun z18 =>
      bd (sI q17.2 a0 14 (((64 : Int32) - (gI q17.2 a0 13)) - z18)) fun m19 =>
      f_X6_takeValue_130 K a0 m19 z18
theorem tv6_e {K : Kn} {m : Mem} {r : Nat} {s : Cs} (h0 : gR m r 0 = some (r + 1)) (hK : K (r + 1) = some (.inl 1)) (hc : coR m (r + 1) s) (hs : csOk s) : tv6 K m r = f_X6_takeValue_130 K r (sI (sI m r 12 6) r 14 (nI (winT s.2.2.2))) (nI (winW s.2.2.2)) := by
  unfold tv6 f_X6_takeValue_87
  simp only [bd_e]
  simp only [ldO_sI, ldO_n h0 hK, bind_e]
  have g4 : gI (sI m r 12 6) (r + 1) 4 = gI m (r + 1) 4 := gI_sI_n (Or.inl (by omega))
  rw [g4]
  have g3 : ∀ v, gI (sI (sI m r 12 6) r 14 v) (r + 1) 3 = gI m (r + 1) 3 := fun v => by rw [gI_sI_n (Or.inl (by omega)), gI_sI_n (Or.inl (by omega))]
  rw [g3]
  rcases co_win hc hs with ⟨e, e3, e4⟩ | ⟨l, t, e, e3, e4, hl, hlt⟩
  · rw [e3, e4, if_pos rfl, e]; rfl
  · rw [e3, e4, if_neg (fun z => by rw [fa_eq, nI_toInt (by omega)] at z; exact absurd z (by show ¬ ((l : Int) = -1); omega)), e, gI_sI_s, show (64 : Int32) = nI 64 from rfl, pk_sub (by omega), pk_sub (by omega)]; rfl
theorem tv7_en {K : Kn} {m : Mem} {r β : Nat} {by_ : Nat → Nat} {lim : Nat} (h : enR K m r β by_ lim) : ∃ m2, (F_X6_takeBits K m r (6 : Int32)).bind (fun q17 => bd (((q17.1).toInt32) + (1 : Int32)) fun z18 => bd (sI q17.2 r 14 (((64 : Int32) - (gI q17.2 r 13)) - z18)) fun m19 => f_X6_takeValue_130 K r m19 z18) = some m2 ∧ enR K m2 r β by_ lim ∧ kpR r m m2 := by
  obtain ⟨v, m', e1, e2, e3, e4, -⟩ := en_tk h (w := 6) (by omega)
  rw [show (6 : Int32) = nI 6 from rfl, e1, bind_e]
  simp only [bd_e]
  rw [lN_toI, show (1 : Int32) = nI 1 from rfl, nI_add]
  obtain ⟨m2, g1, g2, g3⟩ := tv_ends (w := v + 1) (e3.put (k := 14) (v := (64 : Int32) - gI m' r 13 - nI (v + 1)) (by omega)) (by omega)
  exact ⟨m2, g1, g2, e4.trans ((kpR_sI (by omega)).trans g3)⟩
