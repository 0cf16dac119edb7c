/-! ===== the walks ===== -/
abbrev rm_X8_differ : Room := { frames := 7, cells := 0, slots := 0, locals := 171 }
abbrev rm_X1_bytesBy : Room := { frames := 3, cells := 0, slots := 0, locals := 68 }
abbrev rm_X8_best : Room := { frames := 7, cells := 0, slots := 0, locals := 170 }
abbrev rm_X8_repack : Room := { frames := 7, cells := 0, slots := 0, locals := 170 }
abbrev rm_X5_shrink : Room := { frames := 0, cells := 0, slots := 0, locals := 0 }
abbrev rm_X5_dropAlike : Room := { frames := 1, cells := 0, slots := 0, locals := 22 }
abbrev rm_X8_thin : Room := { frames := 7, cells := 0, slots := 0, locals := 170 }
abbrev rm_X5_dropSpan : Room := { frames := 1, cells := 0, slots := 0, locals := 22 }
abbrev rm_X8_cuts : Room := { frames := 7, cells := 0, slots := 0, locals := 170 }
abbrev rm_X8_join : Room := { frames := 7, cells := 0, slots := 0, locals := 171 }
abbrev rm_X3_isFinite : Room := { frames := 0, cells := 0, slots := 0, locals := 0 }
abbrev rm_X5_clearLowest : Room := { frames := 1, cells := 0, slots := 0, locals := 21 }
abbrev rm_X8_rounds : Room := { frames := 7, cells := 0, slots := 0, locals := 170 }
abbrev rm_X8_rounded : Room := { frames := 7, cells := 0, slots := 0, locals := 170 }
abbrev rm_X6_findDearest : Room := { frames := 4, cells := 0, slots := 0, locals := 94 }
abbrev rm_X8_dearest : Room := { frames := 5, cells := 0, slots := 0, locals := 117 }
abbrev rm_X5_holds : Room := { frames := 1, cells := 0, slots := 0, locals := 22 }
abbrev rm_X8_where : Room := { frames := 6, cells := 0, slots := 0, locals := 149 }
abbrev rm_X5_become : Room := { frames := 1, cells := 0, slots := 0, locals := 23 }
abbrev rm_X1_become : Room := { frames := 0, cells := 0, slots := 0, locals := 0 }
abbrev rm_X0_become : Room := { frames := 1, cells := 0, slots := 0, locals := 40 }
abbrev rm_X7_become : Room := { frames := 2, cells := 0, slots := 0, locals := 61 }
abbrev rm_X8_copy : Room := { frames := 3, cells := 0, slots := 0, locals := 83 }
abbrev rm_J9_floorMod_7cf53 : Room := { frames := 0, cells := 0, slots := 0, locals := 0 }
abbrev rm_X2_tryChange : Room := { frames := 5, cells := 0, slots := 0, locals := 118 }
set_option maxHeartbeats 4000000 in
theorem v_X8_differ_33B {w : Wo} {K : Kn} {a0 : Nat} {x1 : Int32} {x2 : Int32} {q : (Int32 × Mem)} (t_a0 : K a0 = some (.inl 7)) (k33 : Mem → Int32 → Option (Int32 × Mem)) (hk33 : ∀ (m : Mem) (x3 : Int32), k33 m x3 = some q → VV w RX8 cX8_differ 4 (some .int) rm_X8_differ false (QM w K (some (.int q.1)) q.2 0 0) K 33 [some (.ref a0), none, none, some (.int x3)] [] 0 0 m) {m : Mem} {x3 : Int32} (hf : f_X8_differ_33B K a0 x1 x2 k33 m x3 = some q) : VV w RX8 cX8_differ 4 (some .int) rm_X8_differ false (QM w K (some (.int q.1)) q.2 0 0) K 33 [some (.ref a0), none, none, some (.int x3)] [] 0 0 m := by
  unfold f_X8_differ_33B at hf
  refine vv_iload_n 34 dX8_differ_33 rfl rfl ?_
  refine vv_if_le 71 37 dX8_differ_34 rfl (by decide) (fun c1 => ?_) (fun c1 => ?_)
  · rw [if_pos c1] at hf
    refine vv_iconst 72 (v := (-1)) dX8_differ_71 rfl (by decide) ?_
    obtain rfl := Option.some.inj hf
    exact vv_iret dX8_differ_72 rfl
  · rw [if_neg c1] at hf
    refine vv_aload_n 38 dX8_differ_37 rfl rfl ?_
    obtain ⟨b2, g_b2, hf⟩ := bind_s hf
    have t_b2 := (ldO_spec g_b2).2
    refine gf_RX8_37 41 dX8_differ_38 rfl t_a0 (ldO_spec g_b2).1 ?_
    obtain ⟨q3, g_q3, hf⟩ := bind_s hf
    refine vv_callV 44 (st := []) (As := []) (stk2 := [.int q3.1]) (cl2 := 0) (sl2 := 0) dX8_differ_41 rfl lk_RX8_312 w_967 w_968 rfl t_b2 ⟨(Nat.le_of_ble_eq_true rfl), (Nat.le_of_ble_eq_true rfl)⟩ rfl rfl ⟨(Nat.le_of_ble_eq_true rfl), (Nat.le_of_ble_eq_true rfl)⟩ rfl (Nat.le_of_ble_eq_true rfl) rfl rfl rfl rfl (c_X4_advance t_b2 g_q3) ?_
    refine vv_if_eq 71 47 dX8_differ_44 rfl (by decide) (fun c4 => ?_) (fun c4 => ?_)
    · rw [if_pos c4] at hf
      refine vv_iconst 72 (v := (-1)) dX8_differ_71 rfl (by decide) ?_
      obtain rfl := Option.some.inj hf
      exact vv_iret dX8_differ_72 rfl
    · rw [if_neg c4] at hf
      refine vv_aload_n 48 dX8_differ_47 rfl rfl ?_
      obtain ⟨b5, g_b5, hf⟩ := bind_s hf
      have t_b5 := (ldO_spec g_b5).2
      refine gf_RX8_37 51 dX8_differ_48 rfl t_a0 (ldO_spec g_b5).1 ?_
      obtain ⟨q6, g_q6, hf⟩ := bind_s hf
      refine vv_callV 54 (st := []) (As := []) (stk2 := [.int q6]) (cl2 := 0) (sl2 := 0) dX8_differ_51 rfl lk_RX8_319 w_975 w_976 rfl t_b5 ⟨(Nat.le_of_ble_eq_true rfl), (Nat.le_of_ble_eq_true rfl)⟩ rfl rfl ⟨(Nat.le_of_ble_eq_true rfl), (Nat.le_of_ble_eq_true rfl)⟩ rfl (Nat.le_of_ble_eq_true rfl) rfl rfl rfl rfl (c_X4_isAlike t_b5 g_q6) ?_
      refine vv_if_ne 65 57 dX8_differ_54 rfl (by decide) (fun c7 => ?_) (fun c7 => ?_)
      · rw [if_pos c7] at hf
        refine vv_aload_n 58 dX8_differ_57 rfl rfl ?_
        obtain ⟨b8, g_b8, hf⟩ := bind_s hf
        have t_b8 := (ldO_spec g_b8).2
        refine gf_RX8_37 61 dX8_differ_58 rfl t_a0 (ldO_spec g_b8).1 ?_
        refine gf_RX8_322 64 dX8_differ_61 rfl t_b8 ?_
        obtain rfl := Option.some.inj hf
        exact vv_iret dX8_differ_64 rfl
      · rw [if_neg c7] at hf
        obtain ⟨z9, e_z9, hf⟩ := bd_s hf
        refine vv_iincE (q := 68) (v := z9) (c := (-1)) (L' := [some (.ref a0), none, none, some (.int z9)]) e_z9 dX8_differ_65 rfl rfl (by decide) (Nat.le_of_ble_eq_true rfl) rfl ?_
        refine vv_goto 33 dX8_differ_68 (by decide) ?_
        exact hk33 _ _ hf

theorem v_X8_differ_33 {w : Wo} {K : Kn} {a0 : Nat} {x1 : Int32} {x2 : Int32} {q : (Int32 × Mem)} (t_a0 : K a0 = some (.inl 7)) : ∀ (n : Nat) (m : Mem) (x3 : Int32), f_X8_differ_33 K a0 x1 x2 n m x3 = some q → VV w RX8 cX8_differ 4 (some .int) rm_X8_differ false (QM w K (some (.int q.1)) q.2 0 0) K 33 [some (.ref a0), none, none, some (.int x3)] [] 0 0 m := by
  intro n
  induction n with
  | zero => intro m x3 hf; cases hf
  | succ n ih => intro m x3 hf; exact v_X8_differ_33B (a0 := a0) (x1 := x1) (x2 := x2) t_a0 (f_X8_differ_33 K a0 x1 x2 n) ih hf

set_option maxHeartbeats 4000000 in
theorem v_X8_differ_0 {w : Wo} {K : Kn} {a0 : Nat} {x1 : Int32} {x2 : Int32} {q : (Int32 × Mem)} (t_a0 : K a0 = some (.inl 7)) {m : Mem} (hf : f_X8_differ K a0 x1 x2 m = some q) : VV w RX8 cX8_differ 4 (some .int) rm_X8_differ false (QM w K (some (.int q.1)) q.2 0 0) K 0 [some (.ref a0), some (.int x1), some (.int x2), none] [] 0 0 m := by
  unfold f_X8_differ at hf
  refine vv_aload_n 1 dX8_differ_0 rfl rfl ?_
  refine vv_iload_n 2 dX8_differ_1 rfl rfl ?_
  obtain ⟨q1, g_q1, hf⟩ := bind_s hf
  refine vv_callV 5 (st := []) (As := [.int x1]) (stk2 := [.int q1]) (cl2 := 0) (sl2 := 0) dX8_differ_2 rfl lk_RX8_81 w_469 w_0 rfl t_a0 ⟨(Nat.le_of_ble_eq_true rfl), (Nat.le_of_ble_eq_true rfl)⟩ rfl rfl ⟨(Nat.le_of_ble_eq_true rfl), (Nat.le_of_ble_eq_true rfl)⟩ rfl (Nat.le_of_ble_eq_true rfl) rfl rfl rfl rfl (c_X8_isNone t_a0 g_q1) ?_
  refine vv_if_ne 16 8 dX8_differ_5 rfl (by decide) (fun c2 => ?_) (fun c2 => ?_)
  · rw [if_pos c2] at hf
    refine vv_aload_n 9 dX8_differ_8 rfl rfl ?_
    refine vv_iload_n 10 dX8_differ_9 rfl rfl ?_
    obtain ⟨q3, g_q3, hf⟩ := bind_s hf
    refine vv_callV 13 (st := []) (As := [.int x2]) (stk2 := [.int q3]) (cl2 := 0) (sl2 := 0) dX8_differ_10 rfl lk_RX8_81 w_469 w_0 rfl t_a0 ⟨(Nat.le_of_ble_eq_true rfl), (Nat.le_of_ble_eq_true rfl)⟩ rfl rfl ⟨(Nat.le_of_ble_eq_true rfl), (Nat.le_of_ble_eq_true rfl)⟩ rfl (Nat.le_of_ble_eq_true rfl) rfl rfl rfl rfl (c_X8_isNone t_a0 g_q3) ?_
    refine vv_if_eq 19 16 dX8_differ_13 rfl (by decide) (fun c4 => ?_) (fun c4 => ?_)
    · rw [if_pos c4] at hf
      refine vv_aload_n 20 dX8_differ_19 rfl rfl ?_
      refine vv_iload_n 21 dX8_differ_20 rfl rfl ?_
      refine vv_iload_n 22 dX8_differ_21 rfl rfl ?_
      obtain ⟨q5, g_q5, hf⟩ := bind_s hf
      refine vv_callV 25 (st := []) (As := [.int x1, .int x2]) (stk2 := []) (cl2 := 0) (sl2 := 0) dX8_differ_22 rfl lk_RX8_305 w_960 w_16 rfl t_a0 ⟨(Nat.le_of_ble_eq_true rfl), (Nat.le_of_ble_eq_true rfl)⟩ rfl rfl ⟨(Nat.le_of_ble_eq_true rfl), (Nat.le_of_ble_eq_true rfl)⟩ rfl (Nat.le_of_ble_eq_true rfl) rfl rfl rfl rfl (c_X8_gatherBoth t_a0 g_q5) ?_
      refine vv_aload_n 26 dX8_differ_25 rfl rfl ?_
      obtain ⟨b6, g_b6, hf⟩ := bind_s hf
      have t_b6 := (ldO_spec g_b6).2
      refine gf_RX8_37 29 dX8_differ_26 rfl t_a0 (ldO_spec g_b6).1 ?_
      obtain ⟨q7, g_q7, hf⟩ := bind_s hf
      refine vv_callV 32 (st := []) (As := []) (stk2 := [.int q7.1]) (cl2 := 0) (sl2 := 0) dX8_differ_29 rfl lk_RX8_309 w_963 w_964 rfl t_b6 ⟨(Nat.le_of_ble_eq_true rfl), (Nat.le_of_ble_eq_true rfl)⟩ rfl rfl ⟨(Nat.le_of_ble_eq_true rfl), (Nat.le_of_ble_eq_true rfl)⟩ rfl (Nat.le_of_ble_eq_true rfl) rfl rfl rfl rfl (c_X4_begin t_b6 g_q7) ?_
      obtain ⟨z8, e_z8, hf⟩ := bd_s hf
      refine vv_istore_nE (q := 33) (v := z8) (L' := [some (.ref a0), some (.int x1), some (.int x2), some (.int z8)]) e_z8 dX8_differ_32 rfl (Nat.le_of_ble_eq_true rfl) rfl ?_
      exact VV.lle (v_X8_differ_33 t_a0 FU _ _ hf) (lle_s (lle_n (lle_n (lle_s lle_nil))))
    · rw [if_neg c4] at hf
      refine vv_bipush 18 (v := (-2)) dX8_differ_16 rfl (by decide) ?_
      obtain rfl := Option.some.inj hf
      exact vv_iret dX8_differ_18 rfl
  · rw [if_neg c2] at hf
    refine vv_bipush 18 (v := (-2)) dX8_differ_16 rfl (by decide) ?_
    obtain rfl := Option.some.inj hf
    exact vv_iret dX8_differ_18 rfl

theorem c_X8_differ {w : Wo} {K : Kn} {a0 : Nat} {x1 : Int32} {x2 : Int32} {q : (Int32 × Mem)} {m : Mem} (t_a0 : K a0 = some (.inl 7)) (hf : F_X8_differ K m a0 x1 x2 = some q) : MM w K K yX8_differ cX8_differ 4 (some .int) rm_X8_differ [.ref a0, .int x1, .int x2] m (some (.int q.1)) q.2 0 0 :=
  mm_of (ini := false) (n := 1) (plainFor_of_name (by decide)) rfl (fun h => by first | rfl | cases h) (Nat.le_of_ble_eq_true rfl) rfl (v_X8_differ_0 t_a0 hf)

set_option maxHeartbeats 4000000 in
theorem v_X1_bytesBy_115 {w : Wo} {K : Kn} {a0 : Nat} {a1 : Nat} {x2 : Int32} {q : (Int32 × Mem)} (t_a0 : K a0 = some (.inl 1)) (t_a1 : K a1 = some (.inl 4)) (k11 : Mem → Int32 → Int32 → Int32 → Int32 → Option (Int32 × Mem)) (hk11 : ∀ (m : Mem) (x3 : Int32) (x4 : Int32) (x5 : Int32) (x6 : Int32), k11 m x3 x4 x5 x6 = some q → VV w RX1 cX1_bytesBy 7 (some .int) rm_X1_bytesBy false (QM w K (some (.int q.1)) q.2 0 0) K 11 [some (.ref a0), some (.ref a1), some (.int x2), some (.int x3), some (.int x4), some (.int x5), some (.int x6)] [] 0 0 m) {m : Mem} {x3 : Int32} {x4 : Int32} {x5 : Int32} {x6 : Int32} (hf : f_X1_bytesBy_115 K a0 a1 x2 k11 m x3 x4 x5 x6 = some q) : VV w RX1 cX1_bytesBy 7 (some .int) rm_X1_bytesBy false (QM w K (some (.int q.1)) q.2 0 0) K 115 [some (.ref a0), some (.ref a1), some (.int x2), some (.int x3), some (.int x4), some (.int x5), some (.int x6)] [] 0 0 m := by
  unfold f_X1_bytesBy_115 at hf
  obtain ⟨z1, e_z1, hf⟩ := bd_s hf
  refine vv_iincE (q := 118) (v := z1) (c := 1) (L' := [some (.ref a0), some (.ref a1), some (.int x2), some (.int x3), some (.int x4), some (.int x5), some (.int z1)]) e_z1 dX1_bytesBy_115 rfl rfl (by decide) (Nat.le_of_ble_eq_true rfl) rfl ?_
  refine vv_goto 11 dX1_bytesBy_118 (by decide) ?_
  exact hk11 _ _ _ _ _ hf

set_option maxHeartbeats 4000000 in
theorem v_X1_bytesBy_82 {w : Wo} {K : Kn} {a0 : Nat} {a1 : Nat} {x2 : Int32} {q : (Int32 × Mem)} (t_a0 : K a0 = some (.inl 1)) (t_a1 : K a1 = some (.inl 4)) (k11 : Mem → Int32 → Int32 → Int32 → Int32 → Option (Int32 × Mem)) (hk11 : ∀ (m : Mem) (x3 : Int32) (x4 : Int32) (x5 : Int32) (x6 : Int32), k11 m x3 x4 x5 x6 = some q → VV w RX1 cX1_bytesBy 7 (some .int) rm_X1_bytesBy false (QM w K (some (.int q.1)) q.2 0 0) K 11 [some (.ref a0), some (.ref a1), some (.int x2), some (.int x3), some (.int x4), some (.int x5), some (.int x6)] [] 0 0 m) {m : Mem} {x3 : Int32} {x5 : Int32} {x6 : Int32} (hf : f_X1_bytesBy_82 K a0 a1 x2 k11 m x3 x5 x6 = some q) : VV w RX1 cX1_bytesBy 7 (some .int) rm_X1_bytesBy false (QM w K (some (.int q.1)) q.2 0 0) K 82 [some (.ref a0), some (.ref a1), some (.int x2), some (.int x3), none, some (.int x5), some (.int x6)] [] 0 0 m := by
  unfold f_X1_bytesBy_82 at hf
  refine vv_iload_n 83 dX1_bytesBy_82 rfl rfl ?_
  refine vv_bipush 85 (v := 16) dX1_bytesBy_83 rfl (by decide) ?_
  refine vv_icmp_lt 91 88 dX1_bytesBy_85 rfl (by decide) (fun c1 => ?_) (fun c1 => ?_)
  · rw [if_pos c1] at hf
    obtain ⟨z2, e_z2, hf⟩ := bd_s hf
    refine vv_iincE (q := 94) (v := z2) (c := 1) (L' := [some (.ref a0), some (.ref a1), some (.int x2), some (.int z2), none, some (.int x5), some (.int x6)]) e_z2 dX1_bytesBy_91 rfl rfl (by decide) (Nat.le_of_ble_eq_true rfl) rfl ?_
    refine vv_iconst 95 (v := 0) dX1_bytesBy_94 rfl (by decide) ?_
    refine vv_istore 97 (L' := [some (.ref a0), some (.ref a1), some (.int x2), some (.int z2), some (.int (0 : Int32)), some (.int x5), some (.int x6)]) dX1_bytesBy_95 rfl (Nat.le_of_ble_eq_true rfl) rfl ?_
    refine vv_aload_n 98 dX1_bytesBy_97 rfl rfl ?_
    refine vv_aload_n 99 dX1_bytesBy_98 rfl rfl ?_
    obtain ⟨b3, g_b3, hf⟩ := bind_s hf
    have t_b3 := (ldA_spec g_b3).2
    refine gf_RX1_90 102 dX1_bytesBy_99 rfl t_a1 (ldA_spec g_b3).1 ?_
    refine vv_iload 104 dX1_bytesBy_102 rfl rfl ?_
    obtain ⟨r4, g_r4, hf⟩ := bind_s hf
    refine vv_iald 105 dX1_bytesBy_104 rfl t_b3 g_r4 ?_
    refine vv_aload_n 106 dX1_bytesBy_105 rfl rfl ?_
    obtain ⟨b5, g_b5, hf⟩ := bind_s hf
    have t_b5 := (ldA_spec g_b5).2
    refine gf_RX1_93 109 dX1_bytesBy_106 rfl t_a1 (ldA_spec g_b5).1 ?_
    refine vv_iload 111 dX1_bytesBy_109 rfl rfl ?_
    obtain ⟨r6, g_r6, hf⟩ := bind_s hf
    refine vv_lald 112 dX1_bytesBy_111 rfl t_b5 g_r6 ?_
    obtain ⟨q7, g_q7, hf⟩ := bind_s hf
    refine vv_callV 115 (st := []) (As := [.int r4, .long r6]) (stk2 := []) (cl2 := 0) (sl2 := 0) dX1_bytesBy_112 rfl lk_RX1_109 w_563 w_564 rfl t_a0 ⟨(Nat.le_of_ble_eq_true rfl), (Nat.le_of_ble_eq_true rfl)⟩ rfl rfl ⟨(Nat.le_of_ble_eq_true rfl), (Nat.le_of_ble_eq_true rfl)⟩ rfl (Nat.le_of_ble_eq_true rfl) rfl rfl rfl rfl (c_X1_begin t_a0 g_q7) ?_
    exact v_X1_bytesBy_115 t_a0 t_a1 k11 hk11 hf
  · rw [if_neg c1] at hf
    refine vv_bipush 90 (v := (-4)) dX1_bytesBy_88 rfl (by decide) ?_
    obtain rfl := Option.some.inj hf
    exact vv_iret dX1_bytesBy_90 rfl

set_option maxHeartbeats 4000000 in
theorem v_X1_bytesBy_11B {w : Wo} {K : Kn} {a0 : Nat} {a1 : Nat} {x2 : Int32} {q : (Int32 × Mem)} (t_a0 : K a0 = some (.inl 1)) (t_a1 : K a1 = some (.inl 4)) (k11 : Mem → Int32 → Int32 → Int32 → Int32 → Option (Int32 × Mem)) (hk11 : ∀ (m : Mem) (x3 : Int32) (x4 : Int32) (x5 : Int32) (x6 : Int32), k11 m x3 x4 x5 x6 = some q → VV w RX1 cX1_bytesBy 7 (some .int) rm_X1_bytesBy false (QM w K (some (.int q.1)) q.2 0 0) K 11 [some (.ref a0), some (.ref a1), some (.int x2), some (.int x3), some (.int x4), some (.int x5), some (.int x6)] [] 0 0 m) {m : Mem} {x3 : Int32} {x4 : Int32} {x5 : Int32} {x6 : Int32} (hf : f_X1_bytesBy_11B K a0 a1 x2 k11 m x3 x4 x5 x6 = some q) : VV w RX1 cX1_bytesBy 7 (some .int) rm_X1_bytesBy false (QM w K (some (.int q.1)) q.2 0 0) K 11 [some (.ref a0), some (.ref a1), some (.int x2), some (.int x3), some (.int x4), some (.int x5), some (.int x6)] [] 0 0 m := by
  unfold f_X1_bytesBy_11B at hf
  refine vv_iload 13 dX1_bytesBy_11 rfl rfl ?_
  refine vv_aload_n 14 dX1_bytesBy_13 rfl rfl ?_
  refine gf_RX1_85 17 dX1_bytesBy_14 rfl t_a1 ?_
  refine vv_icmp_ge 121 20 dX1_bytesBy_17 rfl (by decide) (fun c1 => ?_) (fun c1 => ?_)
  · rw [if_pos c1] at hf
    refine vv_iload_n 122 dX1_bytesBy_121 rfl rfl ?_
    refine vv_if_le 136 125 dX1_bytesBy_122 rfl (by decide) (fun c2 => ?_) (fun c2 => ?_)
    · rw [if_pos c2] at hf
      refine vv_iconst 137 (v := 0) dX1_bytesBy_136 rfl (by decide) ?_
      obtain rfl := Option.some.inj hf
      exact vv_iret dX1_bytesBy_137 rfl
    · rw [if_neg c2] at hf
      refine vv_iload 127 dX1_bytesBy_125 rfl rfl ?_
      refine vv_iload 129 dX1_bytesBy_127 rfl rfl ?_
      obtain ⟨q3, g_q3, hf⟩ := bind_s hf
      refine vv_callS 132 (st := [.int x5]) (As := [.int x4]) (stk2 := [.int q3, .int x5]) (cl2 := 0) (sl2 := 0) dX1_bytesBy_129 rfl lk_RX1_112 w_522 ⟨(Nat.le_of_ble_eq_true rfl), (Nat.le_of_ble_eq_true rfl)⟩ rfl rfl ⟨(Nat.le_of_ble_eq_true rfl), (Nat.le_of_ble_eq_true rfl)⟩ rfl (Nat.le_of_ble_eq_true rfl) rfl rfl rfl rfl (c_X0_openBytes g_q3) ?_
      refine vv_iadd 133 dX1_bytesBy_132 rfl ?_
      refine vv_goto 137 dX1_bytesBy_133 (by decide) ?_
      obtain rfl := Option.some.inj hf
      exact vv_iret dX1_bytesBy_137 rfl
  · rw [if_neg c1] at hf
    refine vv_iload_n 21 dX1_bytesBy_20 rfl rfl ?_
    refine vv_if_le 82 24 dX1_bytesBy_21 rfl (by decide) (fun c4 => ?_) (fun c4 => ?_)
    · rw [if_pos c4] at hf
      exact VV.lle (v_X1_bytesBy_82 t_a0 t_a1 k11 hk11 hf) (lle_s (lle_s (lle_s (lle_s (lle_n (lle_s (lle_s lle_nil)))))))
    · rw [if_neg c4] at hf
      refine vv_aload_n 25 dX1_bytesBy_24 rfl rfl ?_
      refine vv_aload_n 26 dX1_bytesBy_25 rfl rfl ?_
      obtain ⟨b5, g_b5, hf⟩ := bind_s hf
      have t_b5 := (ldA_spec g_b5).2
      refine gf_RX1_90 29 dX1_bytesBy_26 rfl t_a1 (ldA_spec g_b5).1 ?_
      refine vv_iload 31 dX1_bytesBy_29 rfl rfl ?_
      obtain ⟨r6, g_r6, hf⟩ := bind_s hf
      refine vv_iald 32 dX1_bytesBy_31 rfl t_b5 g_r6 ?_
      refine vv_aload_n 33 dX1_bytesBy_32 rfl rfl ?_
      obtain ⟨b7, g_b7, hf⟩ := bind_s hf
      have t_b7 := (ldA_spec g_b7).2
      refine gf_RX1_93 36 dX1_bytesBy_33 rfl t_a1 (ldA_spec g_b7).1 ?_
      refine vv_iload 38 dX1_bytesBy_36 rfl rfl ?_
      obtain ⟨r8, g_r8, hf⟩ := bind_s hf
      refine vv_lald 39 dX1_bytesBy_38 rfl t_b7 g_r8 ?_
      obtain ⟨q9, g_q9, hf⟩ := bind_s hf
      refine vv_callV 42 (st := []) (As := [.int r6, .long r8]) (stk2 := []) (cl2 := 0) (sl2 := 0) dX1_bytesBy_39 rfl lk_RX1_97 w_488 w_489 rfl t_a0 ⟨(Nat.le_of_ble_eq_true rfl), (Nat.le_of_ble_eq_true rfl)⟩ rfl rfl ⟨(Nat.le_of_ble_eq_true rfl), (Nat.le_of_ble_eq_true rfl)⟩ rfl (Nat.le_of_ble_eq_true rfl) rfl rfl rfl rfl (c_X1_weigh t_a0 g_q9) ?_
      refine vv_iload 44 dX1_bytesBy_42 rfl rfl ?_
      refine vv_aload_n 45 dX1_bytesBy_44 rfl rfl ?_
      refine gf_RX1_75 48 dX1_bytesBy_45 rfl t_a0 ?_
      refine vv_iadd 49 dX1_bytesBy_48 rfl ?_
      obtain ⟨q10, g_q10, hf⟩ := bind_s hf
      refine vv_callS 52 (st := []) (As := [.int (x4 + (gI q9 a0 10))]) (stk2 := [.int q10]) (cl2 := 0) (sl2 := 0) dX1_bytesBy_49 rfl lk_RX1_101 w_519 ⟨(Nat.le_of_ble_eq_true rfl), (Nat.le_of_ble_eq_true rfl)⟩ rfl rfl ⟨(Nat.le_of_ble_eq_true rfl), (Nat.le_of_ble_eq_true rfl)⟩ rfl (Nat.le_of_ble_eq_true rfl) rfl rfl rfl rfl (c_X0_sealedBytes g_q10) ?_
      refine vv_iload_n 53 dX1_bytesBy_52 rfl rfl ?_
      refine vv_icmp_gt 72 56 dX1_bytesBy_53 rfl (by decide) (fun c11 => ?_) (fun c11 => ?_)
      · rw [if_pos c11] at hf
        refine vv_iload 74 dX1_bytesBy_72 rfl rfl ?_
        refine vv_iload 76 dX1_bytesBy_74 rfl rfl ?_
        obtain ⟨q12, g_q12, hf⟩ := bind_s hf
        refine vv_callS 79 (st := [.int x5]) (As := [.int x4]) (stk2 := [.int q12, .int x5]) (cl2 := 0) (sl2 := 0) dX1_bytesBy_76 rfl lk_RX1_101 w_519 ⟨(Nat.le_of_ble_eq_true rfl), (Nat.le_of_ble_eq_true rfl)⟩ rfl rfl ⟨(Nat.le_of_ble_eq_true rfl), (Nat.le_of_ble_eq_true rfl)⟩ rfl (Nat.le_of_ble_eq_true rfl) rfl rfl rfl rfl (c_X0_sealedBytes g_q12) ?_
        refine vv_iadd 80 dX1_bytesBy_79 rfl ?_
        obtain ⟨z13, e_z13, hf⟩ := bd_s hf
        refine vv_istoreE (q := 82) (v := z13) (L' := [some (.ref a0), some (.ref a1), some (.int x2), some (.int x3), some (.int x4), some (.int z13), some (.int x6)]) e_z13 dX1_bytesBy_80 rfl (Nat.le_of_ble_eq_true rfl) rfl ?_
        exact VV.lle (v_X1_bytesBy_82 t_a0 t_a1 k11 hk11 hf) (lle_s (lle_s (lle_s (lle_s (lle_n (lle_s (lle_s lle_nil)))))))
      · rw [if_neg c11] at hf
        refine vv_iload 58 dX1_bytesBy_56 rfl rfl ?_
        refine vv_aload_n 59 dX1_bytesBy_58 rfl rfl ?_
        refine gf_RX1_75 62 dX1_bytesBy_59 rfl t_a0 ?_
        refine vv_iadd 63 dX1_bytesBy_62 rfl ?_
        obtain ⟨z14, e_z14, hf⟩ := bd_s hf
        refine vv_istoreE (q := 65) (v := z14) (L' := [some (.ref a0), some (.ref a1), some (.int x2), some (.int x3), some (.int z14), some (.int x5), some (.int x6)]) e_z14 dX1_bytesBy_63 rfl (Nat.le_of_ble_eq_true rfl) rfl ?_
        refine vv_aload_n 66 dX1_bytesBy_65 rfl rfl ?_
        obtain ⟨q15, g_q15, hf⟩ := bind_s hf
        refine vv_callV 69 (st := []) (As := []) (stk2 := []) (cl2 := 0) (sl2 := 0) dX1_bytesBy_66 rfl lk_RX1_106 w_539 w_540 rfl t_a0 ⟨(Nat.le_of_ble_eq_true rfl), (Nat.le_of_ble_eq_true rfl)⟩ rfl rfl ⟨(Nat.le_of_ble_eq_true rfl), (Nat.le_of_ble_eq_true rfl)⟩ rfl (Nat.le_of_ble_eq_true rfl) rfl rfl rfl rfl (c_X1_step t_a0 g_q15) ?_
        refine vv_goto 115 dX1_bytesBy_69 (by decide) ?_
        exact v_X1_bytesBy_115 t_a0 t_a1 k11 hk11 hf

theorem v_X1_bytesBy_11 {w : Wo} {K : Kn} {a0 : Nat} {a1 : Nat} {x2 : Int32} {q : (Int32 × Mem)} (t_a0 : K a0 = some (.inl 1)) (t_a1 : K a1 = some (.inl 4)) : ∀ (n : Nat) (m : Mem) (x3 : Int32) (x4 : Int32) (x5 : Int32) (x6 : Int32), f_X1_bytesBy_11 K a0 a1 x2 n m x3 x4 x5 x6 = some q → VV w RX1 cX1_bytesBy 7 (some .int) rm_X1_bytesBy false (QM w K (some (.int q.1)) q.2 0 0) K 11 [some (.ref a0), some (.ref a1), some (.int x2), some (.int x3), some (.int x4), some (.int x5), some (.int x6)] [] 0 0 m := by
  intro n
  induction n with
  | zero => intro m x3 x4 x5 x6 hf; cases hf
  | succ n ih => intro m x3 x4 x5 x6 hf; exact v_X1_bytesBy_11B (a0 := a0) (a1 := a1) (x2 := x2) t_a0 t_a1 (f_X1_bytesBy_11 K a0 a1 x2 n) ih hf

set_option maxHeartbeats 4000000 in
theorem v_X1_bytesBy_0 {w : Wo} {K : Kn} {a0 : Nat} {a1 : Nat} {x2 : Int32} {q : (Int32 × Mem)} (t_a0 : K a0 = some (.inl 1)) (t_a1 : K a1 = some (.inl 4)) {m : Mem} (hf : f_X1_bytesBy K a0 a1 x2 m = some q) : VV w RX1 cX1_bytesBy 7 (some .int) rm_X1_bytesBy false (QM w K (some (.int q.1)) q.2 0 0) K 0 [some (.ref a0), some (.ref a1), some (.int x2), none, none, none, none] [] 0 0 m := by
  unfold f_X1_bytesBy at hf
  refine vv_iconst 1 (v := 0) dX1_bytesBy_0 rfl (by decide) ?_
  refine vv_istore_n 2 (L' := [some (.ref a0), some (.ref a1), some (.int x2), some (.int (0 : Int32)), none, none, none]) dX1_bytesBy_1 rfl (Nat.le_of_ble_eq_true rfl) rfl ?_
  refine vv_iconst 3 (v := 0) dX1_bytesBy_2 rfl (by decide) ?_
  refine vv_istore 5 (L' := [some (.ref a0), some (.ref a1), some (.int x2), some (.int (0 : Int32)), some (.int (0 : Int32)), none, none]) dX1_bytesBy_3 rfl (Nat.le_of_ble_eq_true rfl) rfl ?_
  refine vv_iconst 6 (v := 0) dX1_bytesBy_5 rfl (by decide) ?_
  refine vv_istore 8 (L' := [some (.ref a0), some (.ref a1), some (.int x2), some (.int (0 : Int32)), some (.int (0 : Int32)), some (.int (0 : Int32)), none]) dX1_bytesBy_6 rfl (Nat.le_of_ble_eq_true rfl) rfl ?_
  refine vv_iconst 9 (v := 0) dX1_bytesBy_8 rfl (by decide) ?_
  refine vv_istore 11 (L' := [some (.ref a0), some (.ref a1), some (.int x2), some (.int (0 : Int32)), some (.int (0 : Int32)), some (.int (0 : Int32)), some (.int (0 : Int32))]) dX1_bytesBy_9 rfl (Nat.le_of_ble_eq_true rfl) rfl ?_
  exact v_X1_bytesBy_11 t_a0 t_a1 FU _ _ _ _ _ hf

theorem c_X1_bytesBy {w : Wo} {K : Kn} {a0 : Nat} {a1 : Nat} {x2 : Int32} {q : (Int32 × Mem)} {m : Mem} (t_a0 : K a0 = some (.inl 1)) (t_a1 : K a1 = some (.inl 4)) (hf : F_X1_bytesBy K m a0 a1 x2 = some q) : MM w K K yX1_bytesBy cX1_bytesBy 7 (some .int) rm_X1_bytesBy [.ref a0, .ref a1, .int x2] m (some (.int q.1)) q.2 0 0 :=
  mm_of (ini := false) (n := 4) (plainFor_of_name (by decide)) rfl (fun h => by first | rfl | cases h) (Nat.le_of_ble_eq_true rfl) rfl (v_X1_bytesBy_0 t_a0 t_a1 hf)

set_option maxHeartbeats 4000000 in
theorem v_X8_best_85 {w : Wo} {K : Kn} {a0 : Nat} {x1 : Int32} {q : (Int32 × Mem)} (t_a0 : K a0 = some (.inl 7)) (k40 : Mem → Int32 → Int32 → Int32 → Option (Int32 × Mem)) (hk40 : ∀ (m : Mem) (x2 : Int32) (x3 : Int32) (x4 : Int32), k40 m x2 x3 x4 = some q → VV w RX8 cX8_best 6 (some .int) rm_X8_best false (QM w K (some (.int q.1)) q.2 0 0) K 40 [some (.ref a0), none, some (.int x2), some (.int x3), some (.int x4), none] [] 0 0 m) {m : Mem} {x2 : Int32} {x3 : Int32} {x4 : Int32} (hf : f_X8_best_85 K a0 x1 k40 m x2 x3 x4 = some q) : VV w RX8 cX8_best 6 (some .int) rm_X8_best false (QM w K (some (.int q.1)) q.2 0 0) K 85 [some (.ref a0), none, some (.int x2), some (.int x3), some (.int x4), none] [] 0 0 m := by
  unfold f_X8_best_85 at hf
  obtain ⟨z1, e_z1, hf⟩ := bd_s hf
  refine vv_iincE (q := 88) (v := z1) (c := 1) (L' := [some (.ref a0), none, some (.int x2), some (.int x3), some (.int z1), none]) e_z1 dX8_best_85 rfl rfl (by decide) (Nat.le_of_ble_eq_true rfl) rfl ?_
  refine vv_goto 40 dX8_best_88 (by decide) ?_
  exact hk40 _ _ _ _ hf

set_option maxHeartbeats 4000000 in
theorem v_X8_best_79 {w : Wo} {K : Kn} {a0 : Nat} {x1 : Int32} {q : (Int32 × Mem)} (t_a0 : K a0 = some (.inl 7)) (k40 : Mem → Int32 → Int32 → Int32 → Option (Int32 × Mem)) (hk40 : ∀ (m : Mem) (x2 : Int32) (x3 : Int32) (x4 : Int32), k40 m x2 x3 x4 = some q → VV w RX8 cX8_best 6 (some .int) rm_X8_best false (QM w K (some (.int q.1)) q.2 0 0) K 40 [some (.ref a0), none, some (.int x2), some (.int x3), some (.int x4), none] [] 0 0 m) {m : Mem} {x4 : Int32} {x5 : Int32} (hf : f_X8_best_79 K a0 x1 k40 m x4 x5 = some q) : VV w RX8 cX8_best 6 (some .int) rm_X8_best false (QM w K (some (.int q.1)) q.2 0 0) K 79 [some (.ref a0), none, none, none, some (.int x4), some (.int x5)] [] 0 0 m := by
  unfold f_X8_best_79 at hf
  refine vv_iload 81 dX8_best_79 rfl rfl ?_
  refine vv_istore_n 82 (L' := [some (.ref a0), none, some (.int x4), none, some (.int x4), some (.int x5)]) dX8_best_81 rfl (Nat.le_of_ble_eq_true rfl) rfl ?_
  refine vv_iload 84 dX8_best_82 rfl rfl ?_
  refine vv_istore_n 85 (L' := [some (.ref a0), none, some (.int x4), some (.int x5), some (.int x4), some (.int x5)]) dX8_best_84 rfl (Nat.le_of_ble_eq_true rfl) rfl ?_
  exact VV.lle (v_X8_best_85 t_a0 k40 hk40 hf) (lle_s (lle_s (lle_s (lle_s (lle_s (lle_n lle_nil))))))

set_option maxHeartbeats 4000000 in
theorem v_X8_best_40B {w : Wo} {K : Kn} {a0 : Nat} {x1 : Int32} {q : (Int32 × Mem)} (t_a0 : K a0 = some (.inl 7)) (k40 : Mem → Int32 → Int32 → Int32 → Option (Int32 × Mem)) (hk40 : ∀ (m : Mem) (x2 : Int32) (x3 : Int32) (x4 : Int32), k40 m x2 x3 x4 = some q → VV w RX8 cX8_best 6 (some .int) rm_X8_best false (QM w K (some (.int q.1)) q.2 0 0) K 40 [some (.ref a0), none, some (.int x2), some (.int x3), some (.int x4), none] [] 0 0 m) {m : Mem} {x2 : Int32} {x3 : Int32} {x4 : Int32} (hf : f_X8_best_40B K a0 x1 k40 m x2 x3 x4 = some q) : VV w RX8 cX8_best 6 (some .int) rm_X8_best false (QM w K (some (.int q.1)) q.2 0 0) K 40 [some (.ref a0), none, some (.int x2), some (.int x3), some (.int x4), none] [] 0 0 m := by
  unfold f_X8_best_40B at hf
  refine vv_iload 42 dX8_best_40 rfl rfl ?_
  refine vv_sipush 45 (v := 200) dX8_best_42 rfl (by decide) ?_
  refine vv_icmp_gt 91 48 dX8_best_45 rfl (by decide) (fun c1 => ?_) (fun c1 => ?_)
  · rw [if_pos c1] at hf
    refine vv_iload_n 92 dX8_best_91 rfl rfl ?_
    obtain rfl := Option.some.inj hf
    exact vv_iret dX8_best_92 rfl
  · rw [if_neg c1] at hf
    refine vv_aload_n 49 dX8_best_48 rfl rfl ?_
    obtain ⟨b2, g_b2, hf⟩ := bind_s hf
    have t_b2 := (ldO_spec g_b2).2
    refine gf_RX8_51 52 dX8_best_49 rfl t_a0 (ldO_spec g_b2).1 ?_
    refine vv_aload_n 53 dX8_best_52 rfl rfl ?_
    obtain ⟨b3, g_b3, hf⟩ := bind_s hf
    have t_b3 := (ldO_spec g_b3).2
    refine gf_RX8_25 56 dX8_best_53 rfl t_a0 (ldO_spec g_b3).1 ?_
    refine vv_iload 58 dX8_best_56 rfl rfl ?_
    obtain ⟨q4, g_q4, hf⟩ := bind_s hf
    refine vv_callV 61 (st := []) (As := [.ref b3, .int x4]) (stk2 := [.int q4.1]) (cl2 := 0) (sl2 := 0) dX8_best_58 rfl lk_RX8_346 w_1057 w_1058 rfl t_b2 ⟨(Nat.le_of_ble_eq_true rfl), (Nat.le_of_ble_eq_true rfl)⟩ rfl rfl ⟨(Nat.le_of_ble_eq_true rfl), (Nat.le_of_ble_eq_true rfl)⟩ rfl (Nat.le_of_ble_eq_true rfl) rfl rfl rfl rfl (c_X1_bytesBy t_b2 t_b3 g_q4) ?_
    obtain ⟨z5, e_z5, hf⟩ := bd_s hf
    refine vv_istoreE (q := 63) (v := z5) (L' := [some (.ref a0), none, some (.int x2), some (.int x3), some (.int x4), some (.int z5)]) e_z5 dX8_best_61 rfl (Nat.le_of_ble_eq_true rfl) rfl ?_
    refine vv_iload 65 dX8_best_63 rfl rfl ?_
    refine vv_if_lt 85 68 dX8_best_65 rfl (by decide) (fun c6 => ?_) (fun c6 => ?_)
    · rw [if_pos c6] at hf
      exact VV.lle (v_X8_best_85 t_a0 k40 hk40 hf) (lle_s (lle_s (lle_s (lle_s (lle_s (lle_n lle_nil))))))
    · rw [if_neg c6] at hf
      refine vv_iload_n 69 dX8_best_68 rfl rfl ?_
      refine vv_iconst 70 (v := (-1)) dX8_best_69 rfl (by decide) ?_
      refine vv_icmp_eq 79 73 dX8_best_70 rfl (by decide) (fun c7 => ?_) (fun c7 => ?_)
      · rw [if_pos c7] at hf
        exact VV.lle (v_X8_best_79 t_a0 k40 hk40 hf) (lle_s (lle_s (lle_n (lle_n (lle_s (lle_s lle_nil))))))
      · rw [if_neg c7] at hf
        refine vv_iload 75 dX8_best_73 rfl rfl ?_
        refine vv_iload_n 76 dX8_best_75 rfl rfl ?_
        refine vv_icmp_ge 85 79 dX8_best_76 rfl (by decide) (fun c8 => ?_) (fun c8 => ?_)
        · rw [if_pos c8] at hf
          exact VV.lle (v_X8_best_85 t_a0 k40 hk40 hf) (lle_s (lle_s (lle_s (lle_s (lle_s (lle_n lle_nil))))))
        · rw [if_neg c8] at hf
          exact VV.lle (v_X8_best_79 t_a0 k40 hk40 hf) (lle_s (lle_s (lle_n (lle_n (lle_s (lle_s lle_nil))))))

theorem v_X8_best_40 {w : Wo} {K : Kn} {a0 : Nat} {x1 : Int32} {q : (Int32 × Mem)} (t_a0 : K a0 = some (.inl 7)) : ∀ (n : Nat) (m : Mem) (x2 : Int32) (x3 : Int32) (x4 : Int32), f_X8_best_40 K a0 x1 n m x2 x3 x4 = some q → VV w RX8 cX8_best 6 (some .int) rm_X8_best false (QM w K (some (.int q.1)) q.2 0 0) K 40 [some (.ref a0), none, some (.int x2), some (.int x3), some (.int x4), none] [] 0 0 m := by
  intro n
  induction n with
  | zero => intro m x2 x3 x4 hf; cases hf
  | succ n ih => intro m x2 x3 x4 hf; exact v_X8_best_40B (a0 := a0) (x1 := x1) t_a0 (f_X8_best_40 K a0 x1 n) ih hf

set_option maxHeartbeats 4000000 in
theorem v_X8_best_0 {w : Wo} {K : Kn} {a0 : Nat} {x1 : Int32} {q : (Int32 × Mem)} (t_a0 : K a0 = some (.inl 7)) {m : Mem} (hf : f_X8_best K a0 x1 m = some q) : VV w RX8 cX8_best 6 (some .int) rm_X8_best false (QM w K (some (.int q.1)) q.2 0 0) K 0 [some (.ref a0), some (.int x1), none, none, none, none] [] 0 0 m := by
  unfold f_X8_best at hf
  refine vv_aload_n 1 dX8_best_0 rfl rfl ?_
  refine vv_iload_n 2 dX8_best_1 rfl rfl ?_
  obtain ⟨q1, g_q1, hf⟩ := bind_s hf
  refine vv_callV 5 (st := []) (As := [.int x1]) (stk2 := [.int q1]) (cl2 := 0) (sl2 := 0) dX8_best_2 rfl lk_RX8_81 w_469 w_0 rfl t_a0 ⟨(Nat.le_of_ble_eq_true rfl), (Nat.le_of_ble_eq_true rfl)⟩ rfl rfl ⟨(Nat.le_of_ble_eq_true rfl), (Nat.le_of_ble_eq_true rfl)⟩ rfl (Nat.le_of_ble_eq_true rfl) rfl rfl rfl rfl (c_X8_isNone t_a0 g_q1) ?_
  refine vv_if_eq 11 8 dX8_best_5 rfl (by decide) (fun c2 => ?_) (fun c2 => ?_)
  · rw [if_pos c2] at hf
    refine vv_aload_n 12 dX8_best_11 rfl rfl ?_
    obtain ⟨b3, g_b3, hf⟩ := bind_s hf
    have t_b3 := (ldA_spec g_b3).2
    refine gf_RX8_11 15 dX8_best_12 rfl t_a0 (ldA_spec g_b3).1 ?_
    refine vv_iload_n 16 dX8_best_15 rfl rfl ?_
    obtain ⟨b4, g_b4, hf⟩ := bind_s hf
    have t_b4 := (alO_spec g_b4).2
    refine vv_aald3 17 dX8_best_16 rfl t_b3 g_b4 ?_
    obtain ⟨q5, g_q5, hf⟩ := bind_s hf
    refine vv_callV 20 (st := []) (As := []) (stk2 := [.int q5]) (cl2 := 0) (sl2 := 0) dX8_best_17 rfl lk_RX8_173 w_689 w_690 rfl t_b4 ⟨(Nat.le_of_ble_eq_true rfl), (Nat.le_of_ble_eq_true rfl)⟩ rfl rfl ⟨(Nat.le_of_ble_eq_true rfl), (Nat.le_of_ble_eq_true rfl)⟩ rfl (Nat.le_of_ble_eq_true rfl) rfl rfl rfl rfl (c_X7_broken t_b4 g_q5) ?_
    refine vv_if_eq 26 23 dX8_best_20 rfl (by decide) (fun c6 => ?_) (fun c6 => ?_)
    · rw [if_pos c6] at hf
      refine vv_aload_n 27 dX8_best_26 rfl rfl ?_
      refine vv_iload_n 28 dX8_best_27 rfl rfl ?_
      obtain ⟨q7, g_q7, hf⟩ := bind_s hf
      refine vv_callV 31 (st := []) (As := [.int x1]) (stk2 := [.ref q7.1]) (cl2 := 0) (sl2 := 0) dX8_best_28 rfl lk_RX8_176 w_694 w_11 rfl t_a0 ⟨(Nat.le_of_ble_eq_true rfl), (Nat.le_of_ble_eq_true rfl)⟩ rfl rfl ⟨(Nat.le_of_ble_eq_true rfl), (Nat.le_of_ble_eq_true rfl)⟩ rfl (Nat.le_of_ble_eq_true rfl) rfl rfl rfl rfl (c_X8_gathered t_a0 g_q7) ?_
      obtain ⟨t_8, hf⟩ := gd_s hf
      refine vv_pop 32 dX8_best_31 rfl rfl ?_
      refine vv_iconst 33 (v := (-1)) dX8_best_32 rfl (by decide) ?_
      refine vv_istore_n 34 (L' := [some (.ref a0), some (.int x1), some (.int (-1 : Int32)), none, none, none]) dX8_best_33 rfl (Nat.le_of_ble_eq_true rfl) rfl ?_
      refine vv_iconst 35 (v := 0) dX8_best_34 rfl (by decide) ?_
      refine vv_istore_n 36 (L' := [some (.ref a0), some (.int x1), some (.int (-1 : Int32)), some (.int (0 : Int32)), none, none]) dX8_best_35 rfl (Nat.le_of_ble_eq_true rfl) rfl ?_
      refine vv_bipush 38 (v := 24) dX8_best_36 rfl (by decide) ?_
      refine vv_istore 40 (L' := [some (.ref a0), some (.int x1), some (.int (-1 : Int32)), some (.int (0 : Int32)), some (.int (24 : Int32)), none]) dX8_best_38 rfl (Nat.le_of_ble_eq_true rfl) rfl ?_
      exact VV.lle (v_X8_best_40 t_a0 FU _ _ _ _ hf) (lle_s (lle_n (lle_s (lle_s (lle_s (lle_s lle_nil))))))
    · rw [if_neg c6] at hf
      refine vv_bipush 25 (v := (-6)) dX8_best_23 rfl (by decide) ?_
      obtain rfl := Option.some.inj hf
      exact vv_iret dX8_best_25 rfl
  · rw [if_neg c2] at hf
    refine vv_bipush 10 (v := (-2)) dX8_best_8 rfl (by decide) ?_
    obtain rfl := Option.some.inj hf
    exact vv_iret dX8_best_10 rfl

theorem c_X8_best {w : Wo} {K : Kn} {a0 : Nat} {x1 : Int32} {q : (Int32 × Mem)} {m : Mem} (t_a0 : K a0 = some (.inl 7)) (hf : F_X8_best K m a0 x1 = some q) : MM w K K yX8_best cX8_best 6 (some .int) rm_X8_best [.ref a0, .int x1] m (some (.int q.1)) q.2 0 0 :=
  mm_of (ini := false) (n := 4) (plainFor_of_name (by decide)) rfl (fun h => by first | rfl | cases h) (Nat.le_of_ble_eq_true rfl) rfl (v_X8_best_0 t_a0 hf)

set_option maxHeartbeats 4000000 in
theorem v_X8_repack_0 {w : Wo} {K : Kn} {a0 : Nat} {x1 : Int32} {x2 : Int32} {q : (Int32 × Mem)} (t_a0 : K a0 = some (.inl 7)) {m : Mem} (hf : f_X8_repack K a0 x1 x2 m = some q) : VV w RX8 cX8_repack 3 (some .int) rm_X8_repack false (QM w K (some (.int q.1)) q.2 0 0) K 0 [some (.ref a0), some (.int x1), some (.int x2)] [] 0 0 m := by
  unfold f_X8_repack at hf
  refine vv_aload_n 1 dX8_repack_0 rfl rfl ?_
  refine vv_iload_n 2 dX8_repack_1 rfl rfl ?_
  obtain ⟨q1, g_q1, hf⟩ := bind_s hf
  refine vv_callV 5 (st := []) (As := [.int x1]) (stk2 := [.int q1]) (cl2 := 0) (sl2 := 0) dX8_repack_2 rfl lk_RX8_81 w_469 w_0 rfl t_a0 ⟨(Nat.le_of_ble_eq_true rfl), (Nat.le_of_ble_eq_true rfl)⟩ rfl rfl ⟨(Nat.le_of_ble_eq_true rfl), (Nat.le_of_ble_eq_true rfl)⟩ rfl (Nat.le_of_ble_eq_true rfl) rfl rfl rfl rfl (c_X8_isNone t_a0 g_q1) ?_
  refine vv_if_ne 15 8 dX8_repack_5 rfl (by decide) (fun c2 => ?_) (fun c2 => ?_)
  · rw [if_pos c2] at hf
    refine vv_iload_n 9 dX8_repack_8 rfl rfl ?_
    obtain ⟨q3, g_q3, hf⟩ := bind_s hf
    refine vv_callS 12 (st := []) (As := [.int x2]) (stk2 := [.int q3]) (cl2 := 0) (sl2 := 0) dX8_repack_9 rfl lk_RX8_75 w_457 ⟨(Nat.le_of_ble_eq_true rfl), (Nat.le_of_ble_eq_true rfl)⟩ rfl rfl ⟨(Nat.le_of_ble_eq_true rfl), (Nat.le_of_ble_eq_true rfl)⟩ rfl (Nat.le_of_ble_eq_true rfl) rfl rfl rfl rfl (c_X8_isRoom g_q3) ?_
    refine vv_if_ne 18 15 dX8_repack_12 rfl (by decide) (fun c4 => ?_) (fun c4 => ?_)
    · rw [if_pos c4] at hf
      refine vv_bipush 17 (v := (-2)) dX8_repack_15 rfl (by decide) ?_
      obtain rfl := Option.some.inj hf
      exact vv_iret dX8_repack_17 rfl
    · rw [if_neg c4] at hf
      refine vv_aload_n 19 dX8_repack_18 rfl rfl ?_
      obtain ⟨b5, g_b5, hf⟩ := bind_s hf
      have t_b5 := (ldA_spec g_b5).2
      refine gf_RX8_11 22 dX8_repack_19 rfl t_a0 (ldA_spec g_b5).1 ?_
      refine vv_iload_n 23 dX8_repack_22 rfl rfl ?_
      obtain ⟨b6, g_b6, hf⟩ := bind_s hf
      have t_b6 := (alO_spec g_b6).2
      refine vv_aald3 24 dX8_repack_23 rfl t_b5 g_b6 ?_
      obtain ⟨q7, g_q7, hf⟩ := bind_s hf
      refine vv_callV 27 (st := []) (As := []) (stk2 := [.int q7]) (cl2 := 0) (sl2 := 0) dX8_repack_24 rfl lk_RX8_173 w_689 w_690 rfl t_b6 ⟨(Nat.le_of_ble_eq_true rfl), (Nat.le_of_ble_eq_true rfl)⟩ rfl rfl ⟨(Nat.le_of_ble_eq_true rfl), (Nat.le_of_ble_eq_true rfl)⟩ rfl (Nat.le_of_ble_eq_true rfl) rfl rfl rfl rfl (c_X7_broken t_b6 g_q7) ?_
      refine vv_if_eq 33 30 dX8_repack_27 rfl (by decide) (fun c8 => ?_) (fun c8 => ?_)
      · rw [if_pos c8] at hf
        refine vv_aload_n 34 dX8_repack_33 rfl rfl ?_
        refine vv_iload_n 35 dX8_repack_34 rfl rfl ?_
        obtain ⟨q9, g_q9, hf⟩ := bind_s hf
        refine vv_callV 38 (st := []) (As := [.int x1]) (stk2 := [.ref q9.1]) (cl2 := 0) (sl2 := 0) dX8_repack_35 rfl lk_RX8_176 w_694 w_11 rfl t_a0 ⟨(Nat.le_of_ble_eq_true rfl), (Nat.le_of_ble_eq_true rfl)⟩ rfl rfl ⟨(Nat.le_of_ble_eq_true rfl), (Nat.le_of_ble_eq_true rfl)⟩ rfl (Nat.le_of_ble_eq_true rfl) rfl rfl rfl rfl (c_X8_gathered t_a0 g_q9) ?_
        obtain ⟨t_10, hf⟩ := gd_s hf
        refine vv_pop 39 dX8_repack_38 rfl rfl ?_
        refine vv_aload_n 40 dX8_repack_39 rfl rfl ?_
        refine vv_iload_n 41 dX8_repack_40 rfl rfl ?_
        refine vv_iload_n 42 dX8_repack_41 rfl rfl ?_
        obtain ⟨q11, g_q11, hf⟩ := bind_s hf
        refine vv_callV 45 (st := []) (As := [.int x1, .int x2]) (stk2 := [.int q11.1]) (cl2 := 0) (sl2 := 0) dX8_repack_42 rfl lk_RX8_333 w_1013 w_18 rfl t_a0 ⟨(Nat.le_of_ble_eq_true rfl), (Nat.le_of_ble_eq_true rfl)⟩ rfl rfl ⟨(Nat.le_of_ble_eq_true rfl), (Nat.le_of_ble_eq_true rfl)⟩ rfl (Nat.le_of_ble_eq_true rfl) rfl rfl rfl rfl (c_X8_packMine t_a0 g_q11) ?_
        obtain rfl := Option.some.inj hf
        exact vv_iret dX8_repack_45 rfl
      · rw [if_neg c8] at hf
        refine vv_bipush 32 (v := (-6)) dX8_repack_30 rfl (by decide) ?_
        obtain rfl := Option.some.inj hf
        exact vv_iret dX8_repack_32 rfl
  · rw [if_neg c2] at hf
    refine vv_bipush 17 (v := (-2)) dX8_repack_15 rfl (by decide) ?_
    obtain rfl := Option.some.inj hf
    exact vv_iret dX8_repack_17 rfl

theorem c_X8_repack {w : Wo} {K : Kn} {a0 : Nat} {x1 : Int32} {x2 : Int32} {q : (Int32 × Mem)} {m : Mem} (t_a0 : K a0 = some (.inl 7)) (hf : F_X8_repack K m a0 x1 x2 = some q) : MM w K K yX8_repack cX8_repack 3 (some .int) rm_X8_repack [.ref a0, .int x1, .int x2] m (some (.int q.1)) q.2 0 0 :=
  mm_of (ini := false) (n := 0) (plainFor_of_name (by decide)) rfl (fun h => by first | rfl | cases h) (Nat.le_of_ble_eq_true rfl) rfl (v_X8_repack_0 t_a0 hf)

set_option maxHeartbeats 4000000 in
theorem v_X5_shrink_0 {w : Wo} {K : Kn} {a0 : Nat} {x1 : Int32} {q : (Int32 × Mem)} (t_a0 : K a0 = some (.inl 4)) {m : Mem} (hf : f_X5_shrink K a0 x1 m = some q) : VV w RX5 cX5_shrink 3 (some .int) rm_X5_shrink false (QM w K (some (.int q.1)) q.2 0 0) K 0 [some (.ref a0), some (.int x1), none] [] 0 0 m := by
  unfold f_X5_shrink at hf
  refine vv_aload_n 1 dX5_shrink_0 rfl rfl ?_
  refine gf_RX5_19 4 dX5_shrink_1 rfl t_a0 ?_
  refine vv_iload_n 5 dX5_shrink_4 rfl rfl ?_
  refine vv_isub 6 dX5_shrink_5 rfl ?_
  obtain ⟨z1, e_z1, hf⟩ := bd_s hf
  refine vv_istore_nE (q := 7) (v := z1) (L' := [some (.ref a0), some (.int x1), some (.int z1)]) e_z1 dX5_shrink_6 rfl (Nat.le_of_ble_eq_true rfl) rfl ?_
  refine vv_aload_n 8 dX5_shrink_7 rfl rfl ?_
  refine vv_iload_n 9 dX5_shrink_8 rfl rfl ?_
  obtain ⟨m2, e_m2, hf⟩ := bd_s hf
  refine pf_RX5_19 12 dX5_shrink_9 rfl t_a0 e_m2 ?_
  refine vv_iload_n 13 dX5_shrink_12 rfl rfl ?_
  obtain rfl := Option.some.inj hf
  exact vv_iret dX5_shrink_13 rfl

theorem c_X5_shrink {w : Wo} {K : Kn} {a0 : Nat} {x1 : Int32} {q : (Int32 × Mem)} {m : Mem} (t_a0 : K a0 = some (.inl 4)) (hf : F_X5_shrink K m a0 x1 = some q) : MM w K K yX5_shrink cX5_shrink 3 (some .int) rm_X5_shrink [.ref a0, .int x1] m (some (.int q.1)) q.2 0 0 :=
  mm_of (ini := false) (n := 1) (plainFor_of_name (by decide)) rfl (fun h => by first | rfl | cases h) (Nat.le_of_ble_eq_true rfl) rfl (v_X5_shrink_0 t_a0 hf)

set_option maxHeartbeats 4000000 in
theorem v_X5_dropAlike_46 {w : Wo} {K : Kn} {a0 : Nat} {x1 : Int32} {q : (Int32 × Mem)} (t_a0 : K a0 = some (.inl 4)) (k4 : Mem → Int32 → Int32 → Option (Int32 × Mem)) (hk4 : ∀ (m : Mem) (x2 : Int32) (x3 : Int32), k4 m x2 x3 = some q → VV w RX5 cX5_dropAlike 4 (some .int) rm_X5_dropAlike false (QM w K (some (.int q.1)) q.2 0 0) K 4 [some (.ref a0), some (.int x1), some (.int x2), some (.int x3)] [] 0 0 m) {m : Mem} {x2 : Int32} {x3 : Int32} (hf : f_X5_dropAlike_46 K a0 x1 k4 m x2 x3 = some q) : VV w RX5 cX5_dropAlike 4 (some .int) rm_X5_dropAlike false (QM w K (some (.int q.1)) q.2 0 0) K 46 [some (.ref a0), some (.int x1), some (.int x2), some (.int x3)] [] 0 0 m := by
  unfold f_X5_dropAlike_46 at hf
  obtain ⟨z1, e_z1, hf⟩ := bd_s hf
  refine vv_iincE (q := 49) (v := z1) (c := 1) (L' := [some (.ref a0), some (.int x1), some (.int x2), some (.int z1)]) e_z1 dX5_dropAlike_46 rfl rfl (by decide) (Nat.le_of_ble_eq_true rfl) rfl ?_
  refine vv_goto 4 dX5_dropAlike_49 (by decide) ?_
  exact hk4 _ _ _ hf

set_option maxHeartbeats 4000000 in
theorem v_X5_dropAlike_37 {w : Wo} {K : Kn} {a0 : Nat} {x1 : Int32} {q : (Int32 × Mem)} (t_a0 : K a0 = some (.inl 4)) (k4 : Mem → Int32 → Int32 → Option (Int32 × Mem)) (hk4 : ∀ (m : Mem) (x2 : Int32) (x3 : Int32), k4 m x2 x3 = some q → VV w RX5 cX5_dropAlike 4 (some .int) rm_X5_dropAlike false (QM w K (some (.int q.1)) q.2 0 0) K 4 [some (.ref a0), some (.int x1), some (.int x2), some (.int x3)] [] 0 0 m) {m : Mem} {x2 : Int32} {x3 : Int32} (hf : f_X5_dropAlike_37 K a0 x1 k4 m x2 x3 = some q) : VV w RX5 cX5_dropAlike 4 (some .int) rm_X5_dropAlike false (QM w K (some (.int q.1)) q.2 0 0) K 37 [some (.ref a0), some (.int x1), some (.int x2), some (.int x3)] [] 0 0 m := by
  unfold f_X5_dropAlike_37 at hf
  refine vv_aload_n 38 dX5_dropAlike_37 rfl rfl ?_
  refine vv_iload_n 39 dX5_dropAlike_38 rfl rfl ?_
  refine vv_iload_n 40 dX5_dropAlike_39 rfl rfl ?_
  obtain ⟨q1, g_q1, hf⟩ := bind_s hf
  refine vv_callV 43 (st := []) (As := [.int x2, .int x3]) (stk2 := []) (cl2 := 0) (sl2 := 0) dX5_dropAlike_40 rfl lk_RX5_52 w_877 w_14 rfl t_a0 ⟨(Nat.le_of_ble_eq_true rfl), (Nat.le_of_ble_eq_true rfl)⟩ rfl rfl ⟨(Nat.le_of_ble_eq_true rfl), (Nat.le_of_ble_eq_true rfl)⟩ rfl (Nat.le_of_ble_eq_true rfl) rfl rfl rfl rfl (c_X5_keep t_a0 g_q1) ?_
  obtain ⟨z2, e_z2, hf⟩ := bd_s hf
  refine vv_iincE (q := 46) (v := z2) (c := 1) (L' := [some (.ref a0), some (.int x1), some (.int z2), some (.int x3)]) e_z2 dX5_dropAlike_43 rfl rfl (by decide) (Nat.le_of_ble_eq_true rfl) rfl ?_
  exact v_X5_dropAlike_46 t_a0 k4 hk4 hf

set_option maxHeartbeats 4000000 in
theorem v_X5_dropAlike_4B {w : Wo} {K : Kn} {a0 : Nat} {x1 : Int32} {q : (Int32 × Mem)} (t_a0 : K a0 = some (.inl 4)) (k4 : Mem → Int32 → Int32 → Option (Int32 × Mem)) (hk4 : ∀ (m : Mem) (x2 : Int32) (x3 : Int32), k4 m x2 x3 = some q → VV w RX5 cX5_dropAlike 4 (some .int) rm_X5_dropAlike false (QM w K (some (.int q.1)) q.2 0 0) K 4 [some (.ref a0), some (.int x1), some (.int x2), some (.int x3)] [] 0 0 m) {m : Mem} {x2 : Int32} {x3 : Int32} (hf : f_X5_dropAlike_4B K a0 x1 k4 m x2 x3 = some q) : VV w RX5 cX5_dropAlike 4 (some .int) rm_X5_dropAlike false (QM w K (some (.int q.1)) q.2 0 0) K 4 [some (.ref a0), some (.int x1), some (.int x2), some (.int x3)] [] 0 0 m := by
  unfold f_X5_dropAlike_4B at hf
  refine vv_iload_n 5 dX5_dropAlike_4 rfl rfl ?_
  refine vv_aload_n 6 dX5_dropAlike_5 rfl rfl ?_
  refine gf_RX5_19 9 dX5_dropAlike_6 rfl t_a0 ?_
  refine vv_icmp_ge 52 12 dX5_dropAlike_9 rfl (by decide) (fun c1 => ?_) (fun c1 => ?_)
  · rw [if_pos c1] at hf
    refine vv_aload_n 53 dX5_dropAlike_52 rfl rfl ?_
    refine vv_iload_n 54 dX5_dropAlike_53 rfl rfl ?_
    obtain ⟨q2, g_q2, hf⟩ := bind_s hf
    refine vv_callV 57 (st := []) (As := [.int x2]) (stk2 := [.int q2.1]) (cl2 := 0) (sl2 := 0) dX5_dropAlike_54 rfl lk_RX5_56 w_1030 w_19 rfl t_a0 ⟨(Nat.le_of_ble_eq_true rfl), (Nat.le_of_ble_eq_true rfl)⟩ rfl rfl ⟨(Nat.le_of_ble_eq_true rfl), (Nat.le_of_ble_eq_true rfl)⟩ rfl (Nat.le_of_ble_eq_true rfl) rfl rfl rfl rfl (c_X5_shrink t_a0 g_q2) ?_
    obtain rfl := Option.some.inj hf
    exact vv_iret dX5_dropAlike_57 rfl
  · rw [if_neg c1] at hf
    refine vv_iload_n 13 dX5_dropAlike_12 rfl rfl ?_
    refine vv_if_eq 37 16 dX5_dropAlike_13 rfl (by decide) (fun c3 => ?_) (fun c3 => ?_)
    · rw [if_pos c3] at hf
      exact v_X5_dropAlike_37 t_a0 k4 hk4 hf
    · rw [if_neg c3] at hf
      refine vv_aload_n 17 dX5_dropAlike_16 rfl rfl ?_
      obtain ⟨b4, g_b4, hf⟩ := bind_s hf
      have t_b4 := (ldA_spec g_b4).2
      refine gf_RX5_9 20 dX5_dropAlike_17 rfl t_a0 (ldA_spec g_b4).1 ?_
      refine vv_iload_n 21 dX5_dropAlike_20 rfl rfl ?_
      obtain ⟨r5, g_r5, hf⟩ := bind_s hf
      refine vv_iald 22 dX5_dropAlike_21 rfl t_b4 g_r5 ?_
      refine vv_iload_n 23 dX5_dropAlike_22 rfl rfl ?_
      obtain ⟨h6, hf⟩ := gd_s hf
      refine vv_idiv 24 dX5_dropAlike_23 rfl h6 ?_
      refine vv_aload_n 25 dX5_dropAlike_24 rfl rfl ?_
      obtain ⟨b7, g_b7, hf⟩ := bind_s hf
      have t_b7 := (ldA_spec g_b7).2
      refine gf_RX5_9 28 dX5_dropAlike_25 rfl t_a0 (ldA_spec g_b7).1 ?_
      refine vv_iload_n 29 dX5_dropAlike_28 rfl rfl ?_
      refine vv_iconst 30 (v := 1) dX5_dropAlike_29 rfl (by decide) ?_
      refine vv_isub 31 dX5_dropAlike_30 rfl ?_
      obtain ⟨r8, g_r8, hf⟩ := bind_s hf
      refine vv_iald 32 dX5_dropAlike_31 rfl t_b7 g_r8 ?_
      refine vv_iload_n 33 dX5_dropAlike_32 rfl rfl ?_
      obtain ⟨h9, hf⟩ := gd_s hf
      refine vv_idiv 34 dX5_dropAlike_33 rfl h9 ?_
      refine vv_icmp_eq 46 37 dX5_dropAlike_34 rfl (by decide) (fun c10 => ?_) (fun c10 => ?_)
      · rw [if_pos c10] at hf
        exact v_X5_dropAlike_46 t_a0 k4 hk4 hf
      · rw [if_neg c10] at hf
        exact v_X5_dropAlike_37 t_a0 k4 hk4 hf

theorem v_X5_dropAlike_4 {w : Wo} {K : Kn} {a0 : Nat} {x1 : Int32} {q : (Int32 × Mem)} (t_a0 : K a0 = some (.inl 4)) : ∀ (n : Nat) (m : Mem) (x2 : Int32) (x3 : Int32), f_X5_dropAlike_4 K a0 x1 n m x2 x3 = some q → VV w RX5 cX5_dropAlike 4 (some .int) rm_X5_dropAlike false (QM w K (some (.int q.1)) q.2 0 0) K 4 [some (.ref a0), some (.int x1), some (.int x2), some (.int x3)] [] 0 0 m := by
  intro n
  induction n with
  | zero => intro m x2 x3 hf; cases hf
  | succ n ih => intro m x2 x3 hf; exact v_X5_dropAlike_4B (a0 := a0) (x1 := x1) t_a0 (f_X5_dropAlike_4 K a0 x1 n) ih hf

set_option maxHeartbeats 4000000 in
theorem v_X5_dropAlike_0 {w : Wo} {K : Kn} {a0 : Nat} {x1 : Int32} {q : (Int32 × Mem)} (t_a0 : K a0 = some (.inl 4)) {m : Mem} (hf : f_X5_dropAlike K a0 x1 m = some q) : VV w RX5 cX5_dropAlike 4 (some .int) rm_X5_dropAlike false (QM w K (some (.int q.1)) q.2 0 0) K 0 [some (.ref a0), some (.int x1), none, none] [] 0 0 m := by
  unfold f_X5_dropAlike at hf
  refine vv_iconst 1 (v := 0) dX5_dropAlike_0 rfl (by decide) ?_
  refine vv_istore_n 2 (L' := [some (.ref a0), some (.int x1), some (.int (0 : Int32)), none]) dX5_dropAlike_1 rfl (Nat.le_of_ble_eq_true rfl) rfl ?_
  refine vv_iconst 3 (v := 0) dX5_dropAlike_2 rfl (by decide) ?_
  refine vv_istore_n 4 (L' := [some (.ref a0), some (.int x1), some (.int (0 : Int32)), some (.int (0 : Int32))]) dX5_dropAlike_3 rfl (Nat.le_of_ble_eq_true rfl) rfl ?_
  exact v_X5_dropAlike_4 t_a0 FU _ _ _ hf

theorem c_X5_dropAlike {w : Wo} {K : Kn} {a0 : Nat} {x1 : Int32} {q : (Int32 × Mem)} {m : Mem} (t_a0 : K a0 = some (.inl 4)) (hf : F_X5_dropAlike K m a0 x1 = some q) : MM w K K yX5_dropAlike cX5_dropAlike 4 (some .int) rm_X5_dropAlike [.ref a0, .int x1] m (some (.int q.1)) q.2 0 0 :=
  mm_of (ini := false) (n := 2) (plainFor_of_name (by decide)) rfl (fun h => by first | rfl | cases h) (Nat.le_of_ble_eq_true rfl) rfl (v_X5_dropAlike_0 t_a0 hf)

set_option maxHeartbeats 4000000 in
theorem v_X8_thin_0 {w : Wo} {K : Kn} {a0 : Nat} {x1 : Int32} {x2 : Int32} {q : (Int32 × Mem)} (t_a0 : K a0 = some (.inl 7)) {m : Mem} (hf : f_X8_thin K a0 x1 x2 m = some q) : VV w RX8 cX8_thin 4 (some .int) rm_X8_thin false (QM w K (some (.int q.1)) q.2 0 0) K 0 [some (.ref a0), some (.int x1), some (.int x2), none] [] 0 0 m := by
  unfold f_X8_thin at hf
  refine vv_aload_n 1 dX8_thin_0 rfl rfl ?_
  refine vv_iload_n 2 dX8_thin_1 rfl rfl ?_
  obtain ⟨q1, g_q1, hf⟩ := bind_s hf
  refine vv_callV 5 (st := []) (As := [.int x1]) (stk2 := [.int q1]) (cl2 := 0) (sl2 := 0) dX8_thin_2 rfl lk_RX8_81 w_469 w_0 rfl t_a0 ⟨(Nat.le_of_ble_eq_true rfl), (Nat.le_of_ble_eq_true rfl)⟩ rfl rfl ⟨(Nat.le_of_ble_eq_true rfl), (Nat.le_of_ble_eq_true rfl)⟩ rfl (Nat.le_of_ble_eq_true rfl) rfl rfl rfl rfl (c_X8_isNone t_a0 g_q1) ?_
  refine vv_if_ne 20 8 dX8_thin_5 rfl (by decide) (fun c2 => ?_) (fun c2 => ?_)
  · rw [if_pos c2] at hf
    refine vv_iload_n 9 dX8_thin_8 rfl rfl ?_
    refine vv_iconst 10 (v := 1) dX8_thin_9 rfl (by decide) ?_
    refine vv_icmp_lt 20 13 dX8_thin_10 rfl (by decide) (fun c3 => ?_) (fun c3 => ?_)
    · rw [if_pos c3] at hf
      refine vv_bipush 22 (v := (-2)) dX8_thin_20 rfl (by decide) ?_
      obtain rfl := Option.some.inj hf
      exact vv_iret dX8_thin_22 rfl
    · rw [if_neg c3] at hf
      refine vv_iload_n 14 dX8_thin_13 rfl rfl ?_
      refine vv_ldcw 17 (v := 1000000) dX8_thin_14 rfl w_1023 ?_
      refine vv_icmp_le 23 20 dX8_thin_17 rfl (by decide) (fun c4 => ?_) (fun c4 => ?_)
      · rw [if_pos c4] at hf
        refine vv_aload_n 24 dX8_thin_23 rfl rfl ?_
        obtain ⟨b5, g_b5, hf⟩ := bind_s hf
        have t_b5 := (ldA_spec g_b5).2
        refine gf_RX8_11 27 dX8_thin_24 rfl t_a0 (ldA_spec g_b5).1 ?_
        refine vv_iload_n 28 dX8_thin_27 rfl rfl ?_
        obtain ⟨b6, g_b6, hf⟩ := bind_s hf
        have t_b6 := (alO_spec g_b6).2
        refine vv_aald3 29 dX8_thin_28 rfl t_b5 g_b6 ?_
        obtain ⟨q7, g_q7, hf⟩ := bind_s hf
        refine vv_callV 32 (st := []) (As := []) (stk2 := [.int q7]) (cl2 := 0) (sl2 := 0) dX8_thin_29 rfl lk_RX8_173 w_689 w_690 rfl t_b6 ⟨(Nat.le_of_ble_eq_true rfl), (Nat.le_of_ble_eq_true rfl)⟩ rfl rfl ⟨(Nat.le_of_ble_eq_true rfl), (Nat.le_of_ble_eq_true rfl)⟩ rfl (Nat.le_of_ble_eq_true rfl) rfl rfl rfl rfl (c_X7_broken t_b6 g_q7) ?_
        refine vv_if_eq 38 35 dX8_thin_32 rfl (by decide) (fun c8 => ?_) (fun c8 => ?_)
        · rw [if_pos c8] at hf
          refine vv_aload_n 39 dX8_thin_38 rfl rfl ?_
          refine vv_iload_n 40 dX8_thin_39 rfl rfl ?_
          obtain ⟨q9, g_q9, hf⟩ := bind_s hf
          refine vv_callV 43 (st := []) (As := [.int x1]) (stk2 := [.ref q9.1]) (cl2 := 0) (sl2 := 0) dX8_thin_40 rfl lk_RX8_176 w_694 w_11 rfl t_a0 ⟨(Nat.le_of_ble_eq_true rfl), (Nat.le_of_ble_eq_true rfl)⟩ rfl rfl ⟨(Nat.le_of_ble_eq_true rfl), (Nat.le_of_ble_eq_true rfl)⟩ rfl (Nat.le_of_ble_eq_true rfl) rfl rfl rfl rfl (c_X8_gathered t_a0 g_q9) ?_
          obtain ⟨t_10, hf⟩ := gd_s hf
          refine vv_iload_n 44 dX8_thin_43 rfl rfl ?_
          obtain ⟨q11, g_q11, hf⟩ := bind_s hf
          refine vv_callV 47 (st := []) (As := [.int x2]) (stk2 := [.int q11.1]) (cl2 := 0) (sl2 := 0) dX8_thin_44 rfl lk_RX8_337 w_1025 w_1026 rfl t_10 ⟨(Nat.le_of_ble_eq_true rfl), (Nat.le_of_ble_eq_true rfl)⟩ rfl rfl ⟨(Nat.le_of_ble_eq_true rfl), (Nat.le_of_ble_eq_true rfl)⟩ rfl (Nat.le_of_ble_eq_true rfl) rfl rfl rfl rfl (c_X5_dropAlike t_10 g_q11) ?_
          obtain ⟨z12, e_z12, hf⟩ := bd_s hf
          refine vv_istore_nE (q := 48) (v := z12) (L' := [some (.ref a0), some (.int x1), some (.int x2), some (.int z12)]) e_z12 dX8_thin_47 rfl (Nat.le_of_ble_eq_true rfl) rfl ?_
          refine vv_aload_n 49 dX8_thin_48 rfl rfl ?_
          refine vv_iload_n 50 dX8_thin_49 rfl rfl ?_
          refine vv_aload_n 51 dX8_thin_50 rfl rfl ?_
          obtain ⟨b13, g_b13, hf⟩ := bind_s hf
          have t_b13 := (ldA_spec g_b13).2
          refine gf_RX8_11 54 dX8_thin_51 rfl t_a0 (ldA_spec g_b13).1 ?_
          refine vv_iload_n 55 dX8_thin_54 rfl rfl ?_
          obtain ⟨b14, g_b14, hf⟩ := bind_s hf
          have t_b14 := (alO_spec g_b14).2
          refine vv_aald3 56 dX8_thin_55 rfl t_b13 g_b14 ?_
          refine gf_RX8_145 59 dX8_thin_56 rfl t_b14 ?_
          obtain ⟨q15, g_q15, hf⟩ := bind_s hf
          refine vv_callV 62 (st := []) (As := [.int x1, .int (gI q11.2 b14 4)]) (stk2 := [.int q15.1]) (cl2 := 0) (sl2 := 0) dX8_thin_59 rfl lk_RX8_333 w_1013 w_18 rfl t_a0 ⟨(Nat.le_of_ble_eq_true rfl), (Nat.le_of_ble_eq_true rfl)⟩ rfl rfl ⟨(Nat.le_of_ble_eq_true rfl), (Nat.le_of_ble_eq_true rfl)⟩ rfl (Nat.le_of_ble_eq_true rfl) rfl rfl rfl rfl (c_X8_packMine t_a0 g_q15) ?_
          refine vv_if_ge 70 65 dX8_thin_62 rfl (by decide) (fun c16 => ?_) (fun c16 => ?_)
          · rw [if_pos c16] at hf
            refine vv_iload_n 71 dX8_thin_70 rfl rfl ?_
            obtain rfl := Option.some.inj hf
            exact vv_iret dX8_thin_71 rfl
          · rw [if_neg c16] at hf
            refine vv_bipush 67 (v := (-4)) dX8_thin_65 rfl (by decide) ?_
            refine vv_goto 71 dX8_thin_67 (by decide) ?_
            obtain rfl := Option.some.inj hf
            exact vv_iret dX8_thin_71 rfl
        · rw [if_neg c8] at hf
          refine vv_bipush 37 (v := (-6)) dX8_thin_35 rfl (by decide) ?_
          obtain rfl := Option.some.inj hf
          exact vv_iret dX8_thin_37 rfl
      · rw [if_neg c4] at hf
        refine vv_bipush 22 (v := (-2)) dX8_thin_20 rfl (by decide) ?_
        obtain rfl := Option.some.inj hf
        exact vv_iret dX8_thin_22 rfl
  · rw [if_neg c2] at hf
    refine vv_bipush 22 (v := (-2)) dX8_thin_20 rfl (by decide) ?_
    obtain rfl := Option.some.inj hf
    exact vv_iret dX8_thin_22 rfl

theorem c_X8_thin {w : Wo} {K : Kn} {a0 : Nat} {x1 : Int32} {x2 : Int32} {q : (Int32 × Mem)} {m : Mem} (t_a0 : K a0 = some (.inl 7)) (hf : F_X8_thin K m a0 x1 x2 = some q) : MM w K K yX8_thin cX8_thin 4 (some .int) rm_X8_thin [.ref a0, .int x1, .int x2] m (some (.int q.1)) q.2 0 0 :=
  mm_of (ini := false) (n := 1) (plainFor_of_name (by decide)) rfl (fun h => by first | rfl | cases h) (Nat.le_of_ble_eq_true rfl) rfl (v_X8_thin_0 t_a0 hf)

set_option maxHeartbeats 4000000 in
theorem v_X5_dropSpan_46 {w : Wo} {K : Kn} {a0 : Nat} {x1 : Int32} {x2 : Int32} {q : (Int32 × Mem)} (t_a0 : K a0 = some (.inl 4)) (k5 : Mem → Int32 → Int32 → Option (Int32 × Mem)) (hk5 : ∀ (m : Mem) (x3 : Int32) (x4 : Int32), k5 m x3 x4 = some q → VV w RX5 cX5_dropSpan 5 (some .int) rm_X5_dropSpan false (QM w K (some (.int q.1)) q.2 0 0) K 5 [some (.ref a0), some (.int x1), some (.int x2), some (.int x3), some (.int x4)] [] 0 0 m) {m : Mem} {x3 : Int32} {x4 : Int32} (hf : f_X5_dropSpan_46 K a0 x1 x2 k5 m x3 x4 = some q) : VV w RX5 cX5_dropSpan 5 (some .int) rm_X5_dropSpan false (QM w K (some (.int q.1)) q.2 0 0) K 46 [some (.ref a0), some (.int x1), some (.int x2), some (.int x3), some (.int x4)] [] 0 0 m := by
  unfold f_X5_dropSpan_46 at hf
  obtain ⟨z1, e_z1, hf⟩ := bd_s hf
  refine vv_iincE (q := 49) (v := z1) (c := 1) (L' := [some (.ref a0), some (.int x1), some (.int x2), some (.int x3), some (.int z1)]) e_z1 dX5_dropSpan_46 rfl rfl (by decide) (Nat.le_of_ble_eq_true rfl) rfl ?_
  refine vv_goto 5 dX5_dropSpan_49 (by decide) ?_
  exact hk5 _ _ _ hf

set_option maxHeartbeats 4000000 in
theorem v_X5_dropSpan_36 {w : Wo} {K : Kn} {a0 : Nat} {x1 : Int32} {x2 : Int32} {q : (Int32 × Mem)} (t_a0 : K a0 = some (.inl 4)) (k5 : Mem → Int32 → Int32 → Option (Int32 × Mem)) (hk5 : ∀ (m : Mem) (x3 : Int32) (x4 : Int32), k5 m x3 x4 = some q → VV w RX5 cX5_dropSpan 5 (some .int) rm_X5_dropSpan false (QM w K (some (.int q.1)) q.2 0 0) K 5 [some (.ref a0), some (.int x1), some (.int x2), some (.int x3), some (.int x4)] [] 0 0 m) {m : Mem} {x3 : Int32} {x4 : Int32} (hf : f_X5_dropSpan_36 K a0 x1 x2 k5 m x3 x4 = some q) : VV w RX5 cX5_dropSpan 5 (some .int) rm_X5_dropSpan false (QM w K (some (.int q.1)) q.2 0 0) K 36 [some (.ref a0), some (.int x1), some (.int x2), some (.int x3), some (.int x4)] [] 0 0 m := by
  unfold f_X5_dropSpan_36 at hf
  refine vv_aload_n 37 dX5_dropSpan_36 rfl rfl ?_
  refine vv_iload_n 38 dX5_dropSpan_37 rfl rfl ?_
  refine vv_iload 40 dX5_dropSpan_38 rfl rfl ?_
  obtain ⟨q1, g_q1, hf⟩ := bind_s hf
  refine vv_callV 43 (st := []) (As := [.int x3, .int x4]) (stk2 := []) (cl2 := 0) (sl2 := 0) dX5_dropSpan_40 rfl lk_RX5_52 w_877 w_14 rfl t_a0 ⟨(Nat.le_of_ble_eq_true rfl), (Nat.le_of_ble_eq_true rfl)⟩ rfl rfl ⟨(Nat.le_of_ble_eq_true rfl), (Nat.le_of_ble_eq_true rfl)⟩ rfl (Nat.le_of_ble_eq_true rfl) rfl rfl rfl rfl (c_X5_keep t_a0 g_q1) ?_
  obtain ⟨z2, e_z2, hf⟩ := bd_s hf
  refine vv_iincE (q := 46) (v := z2) (c := 1) (L' := [some (.ref a0), some (.int x1), some (.int x2), some (.int z2), some (.int x4)]) e_z2 dX5_dropSpan_43 rfl rfl (by decide) (Nat.le_of_ble_eq_true rfl) rfl ?_
  exact v_X5_dropSpan_46 t_a0 k5 hk5 hf

set_option maxHeartbeats 4000000 in
theorem v_X5_dropSpan_5B {w : Wo} {K : Kn} {a0 : Nat} {x1 : Int32} {x2 : Int32} {q : (Int32 × Mem)} (t_a0 : K a0 = some (.inl 4)) (k5 : Mem → Int32 → Int32 → Option (Int32 × Mem)) (hk5 : ∀ (m : Mem) (x3 : Int32) (x4 : Int32), k5 m x3 x4 = some q → VV w RX5 cX5_dropSpan 5 (some .int) rm_X5_dropSpan false (QM w K (some (.int q.1)) q.2 0 0) K 5 [some (.ref a0), some (.int x1), some (.int x2), some (.int x3), some (.int x4)] [] 0 0 m) {m : Mem} {x3 : Int32} {x4 : Int32} (hf : f_X5_dropSpan_5B K a0 x1 x2 k5 m x3 x4 = some q) : VV w RX5 cX5_dropSpan 5 (some .int) rm_X5_dropSpan false (QM w K (some (.int q.1)) q.2 0 0) K 5 [some (.ref a0), some (.int x1), some (.int x2), some (.int x3), some (.int x4)] [] 0 0 m := by
  unfold f_X5_dropSpan_5B at hf
  refine vv_iload 7 dX5_dropSpan_5 rfl rfl ?_
  refine vv_aload_n 8 dX5_dropSpan_7 rfl rfl ?_
  refine gf_RX5_19 11 dX5_dropSpan_8 rfl t_a0 ?_
  refine vv_icmp_ge 52 14 dX5_dropSpan_11 rfl (by decide) (fun c1 => ?_) (fun c1 => ?_)
  · rw [if_pos c1] at hf
    refine vv_aload_n 53 dX5_dropSpan_52 rfl rfl ?_
    refine vv_iload_n 54 dX5_dropSpan_53 rfl rfl ?_
    obtain ⟨q2, g_q2, hf⟩ := bind_s hf
    refine vv_callV 57 (st := []) (As := [.int x3]) (stk2 := [.int q2.1]) (cl2 := 0) (sl2 := 0) dX5_dropSpan_54 rfl lk_RX5_56 w_1030 w_19 rfl t_a0 ⟨(Nat.le_of_ble_eq_true rfl), (Nat.le_of_ble_eq_true rfl)⟩ rfl rfl ⟨(Nat.le_of_ble_eq_true rfl), (Nat.le_of_ble_eq_true rfl)⟩ rfl (Nat.le_of_ble_eq_true rfl) rfl rfl rfl rfl (c_X5_shrink t_a0 g_q2) ?_
    obtain rfl := Option.some.inj hf
    exact vv_iret dX5_dropSpan_57 rfl
  · rw [if_neg c1] at hf
    refine vv_aload_n 15 dX5_dropSpan_14 rfl rfl ?_
    obtain ⟨b3, g_b3, hf⟩ := bind_s hf
    have t_b3 := (ldA_spec g_b3).2
    refine gf_RX5_9 18 dX5_dropSpan_15 rfl t_a0 (ldA_spec g_b3).1 ?_
    refine vv_iload 20 dX5_dropSpan_18 rfl rfl ?_
    obtain ⟨r4, g_r4, hf⟩ := bind_s hf
    refine vv_iald 21 dX5_dropSpan_20 rfl t_b3 g_r4 ?_
    refine vv_iload_n 22 dX5_dropSpan_21 rfl rfl ?_
    refine vv_icmp_lt 36 25 dX5_dropSpan_22 rfl (by decide) (fun c5 => ?_) (fun c5 => ?_)
    · rw [if_pos c5] at hf
      exact v_X5_dropSpan_36 t_a0 k5 hk5 hf
    · rw [if_neg c5] at hf
      refine vv_aload_n 26 dX5_dropSpan_25 rfl rfl ?_
      obtain ⟨b6, g_b6, hf⟩ := bind_s hf
      have t_b6 := (ldA_spec g_b6).2
      refine gf_RX5_9 29 dX5_dropSpan_26 rfl t_a0 (ldA_spec g_b6).1 ?_
      refine vv_iload 31 dX5_dropSpan_29 rfl rfl ?_
      obtain ⟨r7, g_r7, hf⟩ := bind_s hf
      refine vv_iald 32 dX5_dropSpan_31 rfl t_b6 g_r7 ?_
      refine vv_iload_n 33 dX5_dropSpan_32 rfl rfl ?_
      refine vv_icmp_le 46 36 dX5_dropSpan_33 rfl (by decide) (fun c8 => ?_) (fun c8 => ?_)
      · rw [if_pos c8] at hf
        exact v_X5_dropSpan_46 t_a0 k5 hk5 hf
      · rw [if_neg c8] at hf
        exact v_X5_dropSpan_36 t_a0 k5 hk5 hf

theorem v_X5_dropSpan_5 {w : Wo} {K : Kn} {a0 : Nat} {x1 : Int32} {x2 : Int32} {q : (Int32 × Mem)} (t_a0 : K a0 = some (.inl 4)) : ∀ (n : Nat) (m : Mem) (x3 : Int32) (x4 : Int32), f_X5_dropSpan_5 K a0 x1 x2 n m x3 x4 = some q → VV w RX5 cX5_dropSpan 5 (some .int) rm_X5_dropSpan false (QM w K (some (.int q.1)) q.2 0 0) K 5 [some (.ref a0), some (.int x1), some (.int x2), some (.int x3), some (.int x4)] [] 0 0 m := by
  intro n
  induction n with
  | zero => intro m x3 x4 hf; cases hf
  | succ n ih => intro m x3 x4 hf; exact v_X5_dropSpan_5B (a0 := a0) (x1 := x1) (x2 := x2) t_a0 (f_X5_dropSpan_5 K a0 x1 x2 n) ih hf

set_option maxHeartbeats 4000000 in
theorem v_X5_dropSpan_0 {w : Wo} {K : Kn} {a0 : Nat} {x1 : Int32} {x2 : Int32} {q : (Int32 × Mem)} (t_a0 : K a0 = some (.inl 4)) {m : Mem} (hf : f_X5_dropSpan K a0 x1 x2 m = some q) : VV w RX5 cX5_dropSpan 5 (some .int) rm_X5_dropSpan false (QM w K (some (.int q.1)) q.2 0 0) K 0 [some (.ref a0), some (.int x1), some (.int x2), none, none] [] 0 0 m := by
  unfold f_X5_dropSpan at hf
  refine vv_iconst 1 (v := 0) dX5_dropSpan_0 rfl (by decide) ?_
  refine vv_istore_n 2 (L' := [some (.ref a0), some (.int x1), some (.int x2), some (.int (0 : Int32)), none]) dX5_dropSpan_1 rfl (Nat.le_of_ble_eq_true rfl) rfl ?_
  refine vv_iconst 3 (v := 0) dX5_dropSpan_2 rfl (by decide) ?_
  refine vv_istore 5 (L' := [some (.ref a0), some (.int x1), some (.int x2), some (.int (0 : Int32)), some (.int (0 : Int32))]) dX5_dropSpan_3 rfl (Nat.le_of_ble_eq_true rfl) rfl ?_
  exact v_X5_dropSpan_5 t_a0 FU _ _ _ hf

theorem c_X5_dropSpan {w : Wo} {K : Kn} {a0 : Nat} {x1 : Int32} {x2 : Int32} {q : (Int32 × Mem)} {m : Mem} (t_a0 : K a0 = some (.inl 4)) (hf : F_X5_dropSpan K m a0 x1 x2 = some q) : MM w K K yX5_dropSpan cX5_dropSpan 5 (some .int) rm_X5_dropSpan [.ref a0, .int x1, .int x2] m (some (.int q.1)) q.2 0 0 :=
  mm_of (ini := false) (n := 2) (plainFor_of_name (by decide)) rfl (fun h => by first | rfl | cases h) (Nat.le_of_ble_eq_true rfl) rfl (v_X5_dropSpan_0 t_a0 hf)

set_option maxHeartbeats 4000000 in
theorem v_X8_cuts_0 {w : Wo} {K : Kn} {a0 : Nat} {x1 : Int32} {x2 : Int32} {x3 : Int32} {q : (Int32 × Mem)} (t_a0 : K a0 = some (.inl 7)) {m : Mem} (hf : f_X8_cuts K a0 x1 x2 x3 m = some q) : VV w RX8 cX8_cuts 5 (some .int) rm_X8_cuts false (QM w K (some (.int q.1)) q.2 0 0) K 0 [some (.ref a0), some (.int x1), some (.int x2), some (.int x3), none] [] 0 0 m := by
  unfold f_X8_cuts at hf
  refine vv_aload_n 1 dX8_cuts_0 rfl rfl ?_
  refine vv_iload_n 2 dX8_cuts_1 rfl rfl ?_
  obtain ⟨q1, g_q1, hf⟩ := bind_s hf
  refine vv_callV 5 (st := []) (As := [.int x1]) (stk2 := [.int q1]) (cl2 := 0) (sl2 := 0) dX8_cuts_2 rfl lk_RX8_81 w_469 w_0 rfl t_a0 ⟨(Nat.le_of_ble_eq_true rfl), (Nat.le_of_ble_eq_true rfl)⟩ rfl rfl ⟨(Nat.le_of_ble_eq_true rfl), (Nat.le_of_ble_eq_true rfl)⟩ rfl (Nat.le_of_ble_eq_true rfl) rfl rfl rfl rfl (c_X8_isNone t_a0 g_q1) ?_
  refine vv_if_ne 13 8 dX8_cuts_5 rfl (by decide) (fun c2 => ?_) (fun c2 => ?_)
  · rw [if_pos c2] at hf
    refine vv_iload_n 9 dX8_cuts_8 rfl rfl ?_
    refine vv_iload_n 10 dX8_cuts_9 rfl rfl ?_
    refine vv_icmp_le 16 13 dX8_cuts_10 rfl (by decide) (fun c3 => ?_) (fun c3 => ?_)
    · rw [if_pos c3] at hf
      refine vv_aload_n 17 dX8_cuts_16 rfl rfl ?_
      obtain ⟨b4, g_b4, hf⟩ := bind_s hf
      have t_b4 := (ldA_spec g_b4).2
      refine gf_RX8_11 20 dX8_cuts_17 rfl t_a0 (ldA_spec g_b4).1 ?_
      refine vv_iload_n 21 dX8_cuts_20 rfl rfl ?_
      obtain ⟨b5, g_b5, hf⟩ := bind_s hf
      have t_b5 := (alO_spec g_b5).2
      refine vv_aald3 22 dX8_cuts_21 rfl t_b4 g_b5 ?_
      obtain ⟨q6, g_q6, hf⟩ := bind_s hf
      refine vv_callV 25 (st := []) (As := []) (stk2 := [.int q6]) (cl2 := 0) (sl2 := 0) dX8_cuts_22 rfl lk_RX8_173 w_689 w_690 rfl t_b5 ⟨(Nat.le_of_ble_eq_true rfl), (Nat.le_of_ble_eq_true rfl)⟩ rfl rfl ⟨(Nat.le_of_ble_eq_true rfl), (Nat.le_of_ble_eq_true rfl)⟩ rfl (Nat.le_of_ble_eq_true rfl) rfl rfl rfl rfl (c_X7_broken t_b5 g_q6) ?_
      refine vv_if_eq 31 28 dX8_cuts_25 rfl (by decide) (fun c7 => ?_) (fun c7 => ?_)
      · rw [if_pos c7] at hf
        refine vv_aload_n 32 dX8_cuts_31 rfl rfl ?_
        refine vv_iload_n 33 dX8_cuts_32 rfl rfl ?_
        obtain ⟨q8, g_q8, hf⟩ := bind_s hf
        refine vv_callV 36 (st := []) (As := [.int x1]) (stk2 := [.ref q8.1]) (cl2 := 0) (sl2 := 0) dX8_cuts_33 rfl lk_RX8_176 w_694 w_11 rfl t_a0 ⟨(Nat.le_of_ble_eq_true rfl), (Nat.le_of_ble_eq_true rfl)⟩ rfl rfl ⟨(Nat.le_of_ble_eq_true rfl), (Nat.le_of_ble_eq_true rfl)⟩ rfl (Nat.le_of_ble_eq_true rfl) rfl rfl rfl rfl (c_X8_gathered t_a0 g_q8) ?_
        obtain ⟨t_9, hf⟩ := gd_s hf
        refine vv_iload_n 37 dX8_cuts_36 rfl rfl ?_
        refine vv_iload_n 38 dX8_cuts_37 rfl rfl ?_
        obtain ⟨q10, g_q10, hf⟩ := bind_s hf
        refine vv_callV 41 (st := []) (As := [.int x2, .int x3]) (stk2 := [.int q10.1]) (cl2 := 0) (sl2 := 0) dX8_cuts_38 rfl lk_RX8_340 w_1037 w_1038 rfl t_9 ⟨(Nat.le_of_ble_eq_true rfl), (Nat.le_of_ble_eq_true rfl)⟩ rfl rfl ⟨(Nat.le_of_ble_eq_true rfl), (Nat.le_of_ble_eq_true rfl)⟩ rfl (Nat.le_of_ble_eq_true rfl) rfl rfl rfl rfl (c_X5_dropSpan t_9 g_q10) ?_
        obtain ⟨z11, e_z11, hf⟩ := bd_s hf
        refine vv_istoreE (q := 43) (v := z11) (L' := [some (.ref a0), some (.int x1), some (.int x2), some (.int x3), some (.int z11)]) e_z11 dX8_cuts_41 rfl (Nat.le_of_ble_eq_true rfl) rfl ?_
        refine vv_aload_n 44 dX8_cuts_43 rfl rfl ?_
        refine vv_iload_n 45 dX8_cuts_44 rfl rfl ?_
        refine vv_aload_n 46 dX8_cuts_45 rfl rfl ?_
        obtain ⟨b12, g_b12, hf⟩ := bind_s hf
        have t_b12 := (ldA_spec g_b12).2
        refine gf_RX8_11 49 dX8_cuts_46 rfl t_a0 (ldA_spec g_b12).1 ?_
        refine vv_iload_n 50 dX8_cuts_49 rfl rfl ?_
        obtain ⟨b13, g_b13, hf⟩ := bind_s hf
        have t_b13 := (alO_spec g_b13).2
        refine vv_aald3 51 dX8_cuts_50 rfl t_b12 g_b13 ?_
        refine gf_RX8_145 54 dX8_cuts_51 rfl t_b13 ?_
        obtain ⟨q14, g_q14, hf⟩ := bind_s hf
        refine vv_callV 57 (st := []) (As := [.int x1, .int (gI q10.2 b13 4)]) (stk2 := [.int q14.1]) (cl2 := 0) (sl2 := 0) dX8_cuts_54 rfl lk_RX8_333 w_1013 w_18 rfl t_a0 ⟨(Nat.le_of_ble_eq_true rfl), (Nat.le_of_ble_eq_true rfl)⟩ rfl rfl ⟨(Nat.le_of_ble_eq_true rfl), (Nat.le_of_ble_eq_true rfl)⟩ rfl (Nat.le_of_ble_eq_true rfl) rfl rfl rfl rfl (c_X8_packMine t_a0 g_q14) ?_
        refine vv_if_ge 65 60 dX8_cuts_57 rfl (by decide) (fun c15 => ?_) (fun c15 => ?_)
        · rw [if_pos c15] at hf
          refine vv_iload 67 dX8_cuts_65 rfl rfl ?_
          obtain rfl := Option.some.inj hf
          exact vv_iret dX8_cuts_67 rfl
        · rw [if_neg c15] at hf
          refine vv_bipush 62 (v := (-4)) dX8_cuts_60 rfl (by decide) ?_
          refine vv_goto 67 dX8_cuts_62 (by decide) ?_
          obtain rfl := Option.some.inj hf
          exact vv_iret dX8_cuts_67 rfl
      · rw [if_neg c7] at hf
        refine vv_bipush 30 (v := (-6)) dX8_cuts_28 rfl (by decide) ?_
        obtain rfl := Option.some.inj hf
        exact vv_iret dX8_cuts_30 rfl
    · rw [if_neg c3] at hf
      refine vv_bipush 15 (v := (-2)) dX8_cuts_13 rfl (by decide) ?_
      obtain rfl := Option.some.inj hf
      exact vv_iret dX8_cuts_15 rfl
  · rw [if_neg c2] at hf
    refine vv_bipush 15 (v := (-2)) dX8_cuts_13 rfl (by decide) ?_
    obtain rfl := Option.some.inj hf
    exact vv_iret dX8_cuts_15 rfl

theorem c_X8_cuts {w : Wo} {K : Kn} {a0 : Nat} {x1 : Int32} {x2 : Int32} {x3 : Int32} {q : (Int32 × Mem)} {m : Mem} (t_a0 : K a0 = some (.inl 7)) (hf : F_X8_cuts K m a0 x1 x2 x3 = some q) : MM w K K yX8_cuts cX8_cuts 5 (some .int) rm_X8_cuts [.ref a0, .int x1, .int x2, .int x3] m (some (.int q.1)) q.2 0 0 :=
  mm_of (ini := false) (n := 1) (plainFor_of_name (by decide)) rfl (fun h => by first | rfl | cases h) (Nat.le_of_ble_eq_true rfl) rfl (v_X8_cuts_0 t_a0 hf)

set_option maxHeartbeats 4000000 in
theorem v_X8_join_132 {w : Wo} {K : Kn} {a0 : Nat} {x1 : Int32} {x2 : Int32} {x3 : Int32} {q : (Int32 × Mem)} (t_a0 : K a0 = some (.inl 7)) {m : Mem} (hf : f_X8_join_132 K a0 x1 x2 x3 m = some q) : VV w RX8 cX8_join 5 (some .int) rm_X8_join false (QM w K (some (.int q.1)) q.2 0 0) K 132 [some (.ref a0), none, none, some (.int x3), none] [] 0 0 m := by
  unfold f_X8_join_132 at hf
  refine vv_aload_n 133 dX8_join_132 rfl rfl ?_
  refine vv_iload_n 134 dX8_join_133 rfl rfl ?_
  obtain ⟨q1, g_q1, hf⟩ := bind_s hf
  refine vv_callV 137 (st := []) (As := [.int x3]) (stk2 := [.int q1.1]) (cl2 := 0) (sl2 := 0) dX8_join_134 rfl lk_RX8_326 w_988 w_17 rfl t_a0 ⟨(Nat.le_of_ble_eq_true rfl), (Nat.le_of_ble_eq_true rfl)⟩ rfl rfl ⟨(Nat.le_of_ble_eq_true rfl), (Nat.le_of_ble_eq_true rfl)⟩ rfl (Nat.le_of_ble_eq_true rfl) rfl rfl rfl rfl (c_X8_useSpare t_a0 g_q1) ?_
  obtain rfl := Option.some.inj hf
  exact vv_iret dX8_join_137 rfl

set_option maxHeartbeats 4000000 in
theorem v_X8_join_84B {w : Wo} {K : Kn} {a0 : Nat} {x1 : Int32} {x2 : Int32} {x3 : Int32} {q : (Int32 × Mem)} (t_a0 : K a0 = some (.inl 7)) (k84 : Mem → Int32 → Option (Int32 × Mem)) (hk84 : ∀ (m : Mem) (x4 : Int32), k84 m x4 = some q → VV w RX8 cX8_join 5 (some .int) rm_X8_join false (QM w K (some (.int q.1)) q.2 0 0) K 84 [some (.ref a0), none, none, some (.int x3), some (.int x4)] [] 0 0 m) {m : Mem} {x4 : Int32} (hf : f_X8_join_84B K a0 x1 x2 x3 k84 m x4 = some q) : VV w RX8 cX8_join 5 (some .int) rm_X8_join false (QM w K (some (.int q.1)) q.2 0 0) K 84 [some (.ref a0), none, none, some (.int x3), some (.int x4)] [] 0 0 m := by
  unfold f_X8_join_84B at hf
  refine vv_iload 86 dX8_join_84 rfl rfl ?_
  refine vv_if_le 132 89 dX8_join_86 rfl (by decide) (fun c1 => ?_) (fun c1 => ?_)
  · rw [if_pos c1] at hf
    exact VV.lle (v_X8_join_132 t_a0 hf) (lle_s (lle_s (lle_s (lle_s (lle_n lle_nil)))))
  · rw [if_neg c1] at hf
    refine vv_aload_n 90 dX8_join_89 rfl rfl ?_
    obtain ⟨b2, g_b2, hf⟩ := bind_s hf
    have t_b2 := (ldO_spec g_b2).2
    refine gf_RX8_37 93 dX8_join_90 rfl t_a0 (ldO_spec g_b2).1 ?_
    obtain ⟨q3, g_q3, hf⟩ := bind_s hf
    refine vv_callV 96 (st := []) (As := []) (stk2 := [.int q3.1]) (cl2 := 0) (sl2 := 0) dX8_join_93 rfl lk_RX8_312 w_967 w_968 rfl t_b2 ⟨(Nat.le_of_ble_eq_true rfl), (Nat.le_of_ble_eq_true rfl)⟩ rfl rfl ⟨(Nat.le_of_ble_eq_true rfl), (Nat.le_of_ble_eq_true rfl)⟩ rfl (Nat.le_of_ble_eq_true rfl) rfl rfl rfl rfl (c_X4_advance t_b2 g_q3) ?_
    refine vv_if_eq 132 99 dX8_join_96 rfl (by decide) (fun c4 => ?_) (fun c4 => ?_)
    · rw [if_pos c4] at hf
      exact VV.lle (v_X8_join_132 t_a0 hf) (lle_s (lle_s (lle_s (lle_s (lle_n lle_nil)))))
    · rw [if_neg c4] at hf
      refine vv_aload_n 100 dX8_join_99 rfl rfl ?_
      obtain ⟨b5, g_b5, hf⟩ := bind_s hf
      have t_b5 := (ldO_spec g_b5).2
      refine gf_RX8_16 103 dX8_join_100 rfl t_a0 (ldO_spec g_b5).1 ?_
      refine vv_aload_n 104 dX8_join_103 rfl rfl ?_
      obtain ⟨b6, g_b6, hf⟩ := bind_s hf
      have t_b6 := (ldO_spec g_b6).2
      refine gf_RX8_37 107 dX8_join_104 rfl t_a0 (ldO_spec g_b6).1 ?_
      refine gf_RX8_322 110 dX8_join_107 rfl t_b6 ?_
      refine vv_aload_n 111 dX8_join_110 rfl rfl ?_
      obtain ⟨b7, g_b7, hf⟩ := bind_s hf
      have t_b7 := (ldO_spec g_b7).2
      refine gf_RX8_37 114 dX8_join_111 rfl t_a0 (ldO_spec g_b7).1 ?_
      refine gf_RX8_323 117 dX8_join_114 rfl t_b7 ?_
      obtain ⟨q8, g_q8, hf⟩ := bind_s hf
      refine vv_callV 120 (st := []) (As := [.int (gI q3.2 b6 7), .long (gJ q3.2 b7 8)]) (stk2 := [.int q8.1]) (cl2 := 0) (sl2 := 0) dX8_join_117 rfl lk_RX8_91 w_476 w_477 rfl t_b5 ⟨(Nat.le_of_ble_eq_true rfl), (Nat.le_of_ble_eq_true rfl)⟩ rfl rfl ⟨(Nat.le_of_ble_eq_true rfl), (Nat.le_of_ble_eq_true rfl)⟩ rfl (Nat.le_of_ble_eq_true rfl) rfl rfl rfl rfl (c_X7_put t_b5 g_q8) ?_
      refine vv_if_ge 126 123 dX8_join_120 rfl (by decide) (fun c9 => ?_) (fun c9 => ?_)
      · rw [if_pos c9] at hf
        obtain ⟨z10, e_z10, hf⟩ := bd_s hf
        refine vv_iincE (q := 129) (v := z10) (c := (-1)) (L' := [some (.ref a0), none, none, some (.int x3), some (.int z10)]) e_z10 dX8_join_126 rfl rfl (by decide) (Nat.le_of_ble_eq_true rfl) rfl ?_
        refine vv_goto 84 dX8_join_129 (by decide) ?_
        exact hk84 _ _ hf
      · rw [if_neg c9] at hf
        refine vv_bipush 125 (v := (-4)) dX8_join_123 rfl (by decide) ?_
        obtain rfl := Option.some.inj hf
        exact vv_iret dX8_join_125 rfl

theorem v_X8_join_84 {w : Wo} {K : Kn} {a0 : Nat} {x1 : Int32} {x2 : Int32} {x3 : Int32} {q : (Int32 × Mem)} (t_a0 : K a0 = some (.inl 7)) : ∀ (n : Nat) (m : Mem) (x4 : Int32), f_X8_join_84 K a0 x1 x2 x3 n m x4 = some q → VV w RX8 cX8_join 5 (some .int) rm_X8_join false (QM w K (some (.int q.1)) q.2 0 0) K 84 [some (.ref a0), none, none, some (.int x3), some (.int x4)] [] 0 0 m := by
  intro n
  induction n with
  | zero => intro m x4 hf; cases hf
  | succ n ih => intro m x4 hf; exact v_X8_join_84B (a0 := a0) (x1 := x1) (x2 := x2) (x3 := x3) t_a0 (f_X8_join_84 K a0 x1 x2 x3 n) ih hf

set_option maxHeartbeats 4000000 in
theorem v_X8_join_0 {w : Wo} {K : Kn} {a0 : Nat} {x1 : Int32} {x2 : Int32} {x3 : Int32} {q : (Int32 × Mem)} (t_a0 : K a0 = some (.inl 7)) {m : Mem} (hf : f_X8_join K a0 x1 x2 x3 m = some q) : VV w RX8 cX8_join 5 (some .int) rm_X8_join false (QM w K (some (.int q.1)) q.2 0 0) K 0 [some (.ref a0), some (.int x1), some (.int x2), some (.int x3), none] [] 0 0 m := by
  unfold f_X8_join at hf
  refine vv_aload_n 1 dX8_join_0 rfl rfl ?_
  refine vv_iload_n 2 dX8_join_1 rfl rfl ?_
  obtain ⟨q1, g_q1, hf⟩ := bind_s hf
  refine vv_callV 5 (st := []) (As := [.int x1]) (stk2 := [.int q1]) (cl2 := 0) (sl2 := 0) dX8_join_2 rfl lk_RX8_81 w_469 w_0 rfl t_a0 ⟨(Nat.le_of_ble_eq_true rfl), (Nat.le_of_ble_eq_true rfl)⟩ rfl rfl ⟨(Nat.le_of_ble_eq_true rfl), (Nat.le_of_ble_eq_true rfl)⟩ rfl (Nat.le_of_ble_eq_true rfl) rfl rfl rfl rfl (c_X8_isNone t_a0 g_q1) ?_
  refine vv_if_ne 23 8 dX8_join_5 rfl (by decide) (fun c2 => ?_) (fun c2 => ?_)
  · rw [if_pos c2] at hf
    refine vv_aload_n 9 dX8_join_8 rfl rfl ?_
    refine vv_iload_n 10 dX8_join_9 rfl rfl ?_
    obtain ⟨q3, g_q3, hf⟩ := bind_s hf
    refine vv_callV 13 (st := []) (As := [.int x2]) (stk2 := [.int q3]) (cl2 := 0) (sl2 := 0) dX8_join_10 rfl lk_RX8_81 w_469 w_0 rfl t_a0 ⟨(Nat.le_of_ble_eq_true rfl), (Nat.le_of_ble_eq_true rfl)⟩ rfl rfl ⟨(Nat.le_of_ble_eq_true rfl), (Nat.le_of_ble_eq_true rfl)⟩ rfl (Nat.le_of_ble_eq_true rfl) rfl rfl rfl rfl (c_X8_isNone t_a0 g_q3) ?_
    refine vv_if_ne 23 16 dX8_join_13 rfl (by decide) (fun c4 => ?_) (fun c4 => ?_)
    · rw [if_pos c4] at hf
      refine vv_iload_n 17 dX8_join_16 rfl rfl ?_
      obtain ⟨q5, g_q5, hf⟩ := bind_s hf
      refine vv_callS 20 (st := []) (As := [.int x3]) (stk2 := [.int q5]) (cl2 := 0) (sl2 := 0) dX8_join_17 rfl lk_RX8_71 w_454 ⟨(Nat.le_of_ble_eq_true rfl), (Nat.le_of_ble_eq_true rfl)⟩ rfl rfl ⟨(Nat.le_of_ble_eq_true rfl), (Nat.le_of_ble_eq_true rfl)⟩ rfl (Nat.le_of_ble_eq_true rfl) rfl rfl rfl rfl (c_X8_isSlot g_q5) ?_
      refine vv_if_ne 26 23 dX8_join_20 rfl (by decide) (fun c6 => ?_) (fun c6 => ?_)
      · rw [if_pos c6] at hf
        refine vv_bipush 25 (v := (-2)) dX8_join_23 rfl (by decide) ?_
        obtain rfl := Option.some.inj hf
        exact vv_iret dX8_join_25 rfl
      · rw [if_neg c6] at hf
        refine vv_aload_n 27 dX8_join_26 rfl rfl ?_
        obtain ⟨b7, g_b7, hf⟩ := bind_s hf
        have t_b7 := (ldA_spec g_b7).2
        refine gf_RX8_11 30 dX8_join_27 rfl t_a0 (ldA_spec g_b7).1 ?_
        refine vv_iload_n 31 dX8_join_30 rfl rfl ?_
        obtain ⟨b8, g_b8, hf⟩ := bind_s hf
        have t_b8 := (alO_spec g_b8).2
        refine vv_aald3 32 dX8_join_31 rfl t_b7 g_b8 ?_
        obtain ⟨q9, g_q9, hf⟩ := bind_s hf
        refine vv_callV 35 (st := []) (As := []) (stk2 := [.int q9]) (cl2 := 0) (sl2 := 0) dX8_join_32 rfl lk_RX8_173 w_689 w_690 rfl t_b8 ⟨(Nat.le_of_ble_eq_true rfl), (Nat.le_of_ble_eq_true rfl)⟩ rfl rfl ⟨(Nat.le_of_ble_eq_true rfl), (Nat.le_of_ble_eq_true rfl)⟩ rfl (Nat.le_of_ble_eq_true rfl) rfl rfl rfl rfl (c_X7_broken t_b8 g_q9) ?_
        refine vv_if_ne 50 38 dX8_join_35 rfl (by decide) (fun c10 => ?_) (fun c10 => ?_)
        · rw [if_pos c10] at hf
          refine vv_aload_n 39 dX8_join_38 rfl rfl ?_
          obtain ⟨b11, g_b11, hf⟩ := bind_s hf
          have t_b11 := (ldA_spec g_b11).2
          refine gf_RX8_11 42 dX8_join_39 rfl t_a0 (ldA_spec g_b11).1 ?_
          refine vv_iload_n 43 dX8_join_42 rfl rfl ?_
          obtain ⟨b12, g_b12, hf⟩ := bind_s hf
          have t_b12 := (alO_spec g_b12).2
          refine vv_aald3 44 dX8_join_43 rfl t_b11 g_b12 ?_
          obtain ⟨q13, g_q13, hf⟩ := bind_s hf
          refine vv_callV 47 (st := []) (As := []) (stk2 := [.int q13]) (cl2 := 0) (sl2 := 0) dX8_join_44 rfl lk_RX8_173 w_689 w_690 rfl t_b12 ⟨(Nat.le_of_ble_eq_true rfl), (Nat.le_of_ble_eq_true rfl)⟩ rfl rfl ⟨(Nat.le_of_ble_eq_true rfl), (Nat.le_of_ble_eq_true rfl)⟩ rfl (Nat.le_of_ble_eq_true rfl) rfl rfl rfl rfl (c_X7_broken t_b12 g_q13) ?_
          refine vv_if_eq 53 50 dX8_join_47 rfl (by decide) (fun c14 => ?_) (fun c14 => ?_)
          · rw [if_pos c14] at hf
            refine vv_aload_n 54 dX8_join_53 rfl rfl ?_
            refine vv_iload_n 55 dX8_join_54 rfl rfl ?_
            refine vv_iload_n 56 dX8_join_55 rfl rfl ?_
            obtain ⟨q15, g_q15, hf⟩ := bind_s hf
            refine vv_callV 59 (st := []) (As := [.int x1, .int x2]) (stk2 := []) (cl2 := 0) (sl2 := 0) dX8_join_56 rfl lk_RX8_305 w_960 w_16 rfl t_a0 ⟨(Nat.le_of_ble_eq_true rfl), (Nat.le_of_ble_eq_true rfl)⟩ rfl rfl ⟨(Nat.le_of_ble_eq_true rfl), (Nat.le_of_ble_eq_true rfl)⟩ rfl (Nat.le_of_ble_eq_true rfl) rfl rfl rfl rfl (c_X8_gatherBoth t_a0 g_q15) ?_
            refine vv_aload_n 60 dX8_join_59 rfl rfl ?_
            obtain ⟨b16, g_b16, hf⟩ := bind_s hf
            have t_b16 := (ldO_spec g_b16).2
            refine gf_RX8_16 63 dX8_join_60 rfl t_a0 (ldO_spec g_b16).1 ?_
            refine vv_aload_n 64 dX8_join_63 rfl rfl ?_
            obtain ⟨b17, g_b17, hf⟩ := bind_s hf
            have t_b17 := (ldA_spec g_b17).2
            refine gf_RX8_11 67 dX8_join_64 rfl t_a0 (ldA_spec g_b17).1 ?_
            refine vv_iload_n 68 dX8_join_67 rfl rfl ?_
            obtain ⟨b18, g_b18, hf⟩ := bind_s hf
            have t_b18 := (alO_spec g_b18).2
            refine vv_aald3 69 dX8_join_68 rfl t_b17 g_b18 ?_
            refine gf_RX8_145 72 dX8_join_69 rfl t_b18 ?_
            obtain ⟨q19, g_q19, hf⟩ := bind_s hf
            refine vv_callV 75 (st := []) (As := [.int (gI q15 b18 4)]) (stk2 := []) (cl2 := 0) (sl2 := 0) dX8_join_72 rfl lk_RX8_78 w_460 w_461 rfl t_b16 ⟨(Nat.le_of_ble_eq_true rfl), (Nat.le_of_ble_eq_true rfl)⟩ rfl rfl ⟨(Nat.le_of_ble_eq_true rfl), (Nat.le_of_ble_eq_true rfl)⟩ rfl (Nat.le_of_ble_eq_true rfl) rfl rfl rfl rfl (c_X7_start t_b16 g_q19) ?_
            refine vv_aload_n 76 dX8_join_75 rfl rfl ?_
            obtain ⟨b20, g_b20, hf⟩ := bind_s hf
            have t_b20 := (ldO_spec g_b20).2
            refine gf_RX8_37 79 dX8_join_76 rfl t_a0 (ldO_spec g_b20).1 ?_
            obtain ⟨q21, g_q21, hf⟩ := bind_s hf
            refine vv_callV 82 (st := []) (As := []) (stk2 := [.int q21.1]) (cl2 := 0) (sl2 := 0) dX8_join_79 rfl lk_RX8_309 w_963 w_964 rfl t_b20 ⟨(Nat.le_of_ble_eq_true rfl), (Nat.le_of_ble_eq_true rfl)⟩ rfl rfl ⟨(Nat.le_of_ble_eq_true rfl), (Nat.le_of_ble_eq_true rfl)⟩ rfl (Nat.le_of_ble_eq_true rfl) rfl rfl rfl rfl (c_X4_begin t_b20 g_q21) ?_
            obtain ⟨z22, e_z22, hf⟩ := bd_s hf
            refine vv_istoreE (q := 84) (v := z22) (L' := [some (.ref a0), some (.int x1), some (.int x2), some (.int x3), some (.int z22)]) e_z22 dX8_join_82 rfl (Nat.le_of_ble_eq_true rfl) rfl ?_
            exact VV.lle (v_X8_join_84 t_a0 FU _ _ hf) (lle_s (lle_n (lle_n (lle_s (lle_s lle_nil)))))
          · rw [if_neg c14] at hf
            refine vv_bipush 52 (v := (-6)) dX8_join_50 rfl (by decide) ?_
            obtain rfl := Option.some.inj hf
            exact vv_iret dX8_join_52 rfl
        · rw [if_neg c10] at hf
          refine vv_bipush 52 (v := (-6)) dX8_join_50 rfl (by decide) ?_
          obtain rfl := Option.some.inj hf
          exact vv_iret dX8_join_52 rfl
    · rw [if_neg c4] at hf
      refine vv_bipush 25 (v := (-2)) dX8_join_23 rfl (by decide) ?_
      obtain rfl := Option.some.inj hf
      exact vv_iret dX8_join_25 rfl
  · rw [if_neg c2] at hf
    refine vv_bipush 25 (v := (-2)) dX8_join_23 rfl (by decide) ?_
    obtain rfl := Option.some.inj hf
    exact vv_iret dX8_join_25 rfl

theorem c_X8_join {w : Wo} {K : Kn} {a0 : Nat} {x1 : Int32} {x2 : Int32} {x3 : Int32} {q : (Int32 × Mem)} {m : Mem} (t_a0 : K a0 = some (.inl 7)) (hf : F_X8_join K m a0 x1 x2 x3 = some q) : MM w K K yX8_join cX8_join 5 (some .int) rm_X8_join [.ref a0, .int x1, .int x2, .int x3] m (some (.int q.1)) q.2 0 0 :=
  mm_of (ini := false) (n := 1) (plainFor_of_name (by decide)) rfl (fun h => by first | rfl | cases h) (Nat.le_of_ble_eq_true rfl) rfl (v_X8_join_0 t_a0 hf)

set_option maxHeartbeats 4000000 in
theorem v_X3_isFinite_0 {w : Wo} {K : Kn} {x0 : Int64} {q : Int32} {m : Mem} (hf : f_X3_isFinite x0 = some q) : VV w RX3 cX3_isFinite 2 (some .boolean) rm_X3_isFinite false (QM w K (some (.int q)) m 0 0) K 0 [some (.long x0), none] [] 0 0 m := by
  unfold f_X3_isFinite at hf
  refine vv_lload_n 1 dX3_isFinite_0 rfl rfl ?_
  refine vv_ldc2 4 (v := 9223372036854775807) dX3_isFinite_1 rfl w_836 ?_
  refine vv_land 5 dX3_isFinite_4 rfl ?_
  refine vv_ldc2 8 (v := 9218868437227405312) dX3_isFinite_5 rfl w_837 ?_
  refine vv_lcmp 9 dX3_isFinite_8 rfl ?_
  refine vv_if_ge 16 12 dX3_isFinite_9 rfl (by decide) (fun c1 => ?_) (fun c1 => ?_)
  · rw [if_pos c1] at hf
    refine vv_iconst 17 (v := 0) dX3_isFinite_16 rfl (by decide) ?_
    obtain rfl := Option.some.inj hf
    exact vv_zret dX3_isFinite_17 rfl (Or.inl rfl)
  · rw [if_neg c1] at hf
    refine vv_iconst 13 (v := 1) dX3_isFinite_12 rfl (by decide) ?_
    refine vv_goto 17 dX3_isFinite_13 (by decide) ?_
    obtain rfl := Option.some.inj hf
    exact vv_zret dX3_isFinite_17 rfl (Or.inr rfl)

theorem c_X3_isFinite {w : Wo} {K : Kn} {x0 : Int64} {q : Int32} {m : Mem} (hf : F_X3_isFinite x0 = some q) : MM w K K yX3_isFinite cX3_isFinite 2 (some .boolean) rm_X3_isFinite [.long x0] m (some (.int q)) m 0 0 :=
  mm_of (ini := false) (n := 0) (plainFor_of_name (by decide)) rfl (fun h => by first | rfl | cases h) (Nat.le_of_ble_eq_true rfl) rfl (v_X3_isFinite_0 hf)

set_option maxHeartbeats 4000000 in
theorem v_X5_clearLowest_68 {w : Wo} {K : Kn} {a0 : Nat} {x1 : Int32} {q : (Int32 × Mem)} (t_a0 : K a0 = some (.inl 4)) (k12 : Mem → Int64 → Int32 → Int32 → Option (Int32 × Mem)) (hk12 : ∀ (m : Mem) (x2 : Int64) (x4 : Int32) (x5 : Int32), k12 m x2 x4 x5 = some q → VV w RX5 cX5_clearLowest 6 (some .int) rm_X5_clearLowest false (QM w K (some (.int q.1)) q.2 0 0) K 12 [some (.ref a0), none, some (.long x2), none, some (.int x4), some (.int x5)] [] 0 0 m) {m : Mem} {x2 : Int64} {x4 : Int32} {x5 : Int32} (hf : f_X5_clearLowest_68 K a0 x1 k12 m x2 x4 x5 = some q) : VV w RX5 cX5_clearLowest 6 (some .int) rm_X5_clearLowest false (QM w K (some (.int q.1)) q.2 0 0) K 68 [some (.ref a0), none, some (.long x2), none, some (.int x4), some (.int x5)] [] 0 0 m := by
  unfold f_X5_clearLowest_68 at hf
  obtain ⟨z1, e_z1, hf⟩ := bd_s hf
  refine vv_iincE (q := 71) (v := z1) (c := 1) (L' := [some (.ref a0), none, some (.long x2), none, some (.int x4), some (.int z1)]) e_z1 dX5_clearLowest_68 rfl rfl (by decide) (Nat.le_of_ble_eq_true rfl) rfl ?_
  refine vv_goto 12 dX5_clearLowest_71 (by decide) ?_
  exact hk12 _ _ _ _ hf

set_option maxHeartbeats 4000000 in
theorem v_X5_clearLowest_12B {w : Wo} {K : Kn} {a0 : Nat} {x1 : Int32} {q : (Int32 × Mem)} (t_a0 : K a0 = some (.inl 4)) (k12 : Mem → Int64 → Int32 → Int32 → Option (Int32 × Mem)) (hk12 : ∀ (m : Mem) (x2 : Int64) (x4 : Int32) (x5 : Int32), k12 m x2 x4 x5 = some q → VV w RX5 cX5_clearLowest 6 (some .int) rm_X5_clearLowest false (QM w K (some (.int q.1)) q.2 0 0) K 12 [some (.ref a0), none, some (.long x2), none, some (.int x4), some (.int x5)] [] 0 0 m) {m : Mem} {x2 : Int64} {x4 : Int32} {x5 : Int32} (hf : f_X5_clearLowest_12B K a0 x1 k12 m x2 x4 x5 = some q) : VV w RX5 cX5_clearLowest 6 (some .int) rm_X5_clearLowest false (QM w K (some (.int q.1)) q.2 0 0) K 12 [some (.ref a0), none, some (.long x2), none, some (.int x4), some (.int x5)] [] 0 0 m := by
  unfold f_X5_clearLowest_12B at hf
  refine vv_iload 14 dX5_clearLowest_12 rfl rfl ?_
  refine vv_aload_n 15 dX5_clearLowest_14 rfl rfl ?_
  refine gf_RX5_19 18 dX5_clearLowest_15 rfl t_a0 ?_
  refine vv_icmp_ge 74 21 dX5_clearLowest_18 rfl (by decide) (fun c1 => ?_) (fun c1 => ?_)
  · rw [if_pos c1] at hf
    refine vv_iload 76 dX5_clearLowest_74 rfl rfl ?_
    obtain rfl := Option.some.inj hf
    exact vv_iret dX5_clearLowest_76 rfl
  · rw [if_neg c1] at hf
    refine vv_aload_n 22 dX5_clearLowest_21 rfl rfl ?_
    obtain ⟨b2, g_b2, hf⟩ := bind_s hf
    have t_b2 := (ldA_spec g_b2).2
    refine gf_RX5_15 25 dX5_clearLowest_22 rfl t_a0 (ldA_spec g_b2).1 ?_
    refine vv_iload 27 dX5_clearLowest_25 rfl rfl ?_
    obtain ⟨r3, g_r3, hf⟩ := bind_s hf
    refine vv_lald 28 dX5_clearLowest_27 rfl t_b2 g_r3 ?_
    obtain ⟨q4, g_q4, hf⟩ := bind_s hf
    refine vv_callS 31 (st := []) (As := [.long r3]) (stk2 := [.int q4]) (cl2 := 0) (sl2 := 0) dX5_clearLowest_28 rfl lk_RX5_61 w_1050 ⟨(Nat.le_of_ble_eq_true rfl), (Nat.le_of_ble_eq_true rfl)⟩ rfl rfl ⟨(Nat.le_of_ble_eq_true rfl), (Nat.le_of_ble_eq_true rfl)⟩ rfl (Nat.le_of_ble_eq_true rfl) rfl rfl rfl rfl (c_X3_isFinite g_q4) ?_
    refine vv_if_eq 68 34 dX5_clearLowest_31 rfl (by decide) (fun c5 => ?_) (fun c5 => ?_)
    · rw [if_pos c5] at hf
      exact v_X5_clearLowest_68 t_a0 k12 hk12 hf
    · rw [if_neg c5] at hf
      refine vv_aload_n 35 dX5_clearLowest_34 rfl rfl ?_
      obtain ⟨b6, g_b6, hf⟩ := bind_s hf
      have t_b6 := (ldA_spec g_b6).2
      refine gf_RX5_15 38 dX5_clearLowest_35 rfl t_a0 (ldA_spec g_b6).1 ?_
      refine vv_iload 40 dX5_clearLowest_38 rfl rfl ?_
      obtain ⟨r7, g_r7, hf⟩ := bind_s hf
      refine vv_lald 41 dX5_clearLowest_40 rfl t_b6 g_r7 ?_
      refine vv_lload_n 42 dX5_clearLowest_41 rfl rfl ?_
      refine vv_land 43 dX5_clearLowest_42 rfl ?_
      refine vv_aload_n 44 dX5_clearLowest_43 rfl rfl ?_
      obtain ⟨b8, g_b8, hf⟩ := bind_s hf
      have t_b8 := (ldA_spec g_b8).2
      refine gf_RX5_15 47 dX5_clearLowest_44 rfl t_a0 (ldA_spec g_b8).1 ?_
      refine vv_iload 49 dX5_clearLowest_47 rfl rfl ?_
      obtain ⟨r9, g_r9, hf⟩ := bind_s hf
      refine vv_lald 50 dX5_clearLowest_49 rfl t_b8 g_r9 ?_
      refine vv_lcmp 51 dX5_clearLowest_50 rfl ?_
      refine vv_if_eq 68 54 dX5_clearLowest_51 rfl (by decide) (fun c10 => ?_) (fun c10 => ?_)
      · rw [if_pos c10] at hf
        exact v_X5_clearLowest_68 t_a0 k12 hk12 hf
      · rw [if_neg c10] at hf
        refine vv_aload_n 55 dX5_clearLowest_54 rfl rfl ?_
        obtain ⟨b11, g_b11, hf⟩ := bind_s hf
        have t_b11 := (ldA_spec g_b11).2
        refine gf_RX5_15 58 dX5_clearLowest_55 rfl t_a0 (ldA_spec g_b11).1 ?_
        refine vv_iload 60 dX5_clearLowest_58 rfl rfl ?_
        refine vv_dup2 61 dX5_clearLowest_60 rfl rfl rfl ?_
        obtain ⟨r12, g_r12, hf⟩ := bind_s hf
        refine vv_lald 62 dX5_clearLowest_61 rfl t_b11 g_r12 ?_
        refine vv_lload_n 63 dX5_clearLowest_62 rfl rfl ?_
        refine vv_land 64 dX5_clearLowest_63 rfl ?_
        obtain ⟨m13, g_m13, hf⟩ := bind_s hf
        refine vv_last 65 dX5_clearLowest_64 rfl t_b11 g_m13 ?_
        obtain ⟨z14, e_z14, hf⟩ := bd_s hf
        refine vv_iincE (q := 68) (v := z14) (c := 1) (L' := [some (.ref a0), none, some (.long x2), none, some (.int z14), some (.int x5)]) e_z14 dX5_clearLowest_65 rfl rfl (by decide) (Nat.le_of_ble_eq_true rfl) rfl ?_
        exact v_X5_clearLowest_68 t_a0 k12 hk12 hf

theorem v_X5_clearLowest_12 {w : Wo} {K : Kn} {a0 : Nat} {x1 : Int32} {q : (Int32 × Mem)} (t_a0 : K a0 = some (.inl 4)) : ∀ (n : Nat) (m : Mem) (x2 : Int64) (x4 : Int32) (x5 : Int32), f_X5_clearLowest_12 K a0 x1 n m x2 x4 x5 = some q → VV w RX5 cX5_clearLowest 6 (some .int) rm_X5_clearLowest false (QM w K (some (.int q.1)) q.2 0 0) K 12 [some (.ref a0), none, some (.long x2), none, some (.int x4), some (.int x5)] [] 0 0 m := by
  intro n
  induction n with
  | zero => intro m x2 x4 x5 hf; cases hf
  | succ n ih => intro m x2 x4 x5 hf; exact v_X5_clearLowest_12B (a0 := a0) (x1 := x1) t_a0 (f_X5_clearLowest_12 K a0 x1 n) ih hf

set_option maxHeartbeats 4000000 in
theorem v_X5_clearLowest_0 {w : Wo} {K : Kn} {a0 : Nat} {x1 : Int32} {q : (Int32 × Mem)} (t_a0 : K a0 = some (.inl 4)) {m : Mem} (hf : f_X5_clearLowest K a0 x1 m = some q) : VV w RX5 cX5_clearLowest 6 (some .int) rm_X5_clearLowest false (QM w K (some (.int q.1)) q.2 0 0) K 0 [some (.ref a0), some (.int x1), none, none, none, none] [] 0 0 m := by
  unfold f_X5_clearLowest at hf
  refine vv_ldc2 3 (v := (-1)) dX5_clearLowest_0 rfl w_1048 ?_
  refine vv_iload_n 4 dX5_clearLowest_3 rfl rfl ?_
  refine vv_lshl 5 dX5_clearLowest_4 rfl ?_
  obtain ⟨z1, e_z1, hf⟩ := bd_s hf
  refine vv_lstore_nE (q := 6) (v := z1) (L' := [some (.ref a0), some (.int x1), some (.long z1), none, none, none]) e_z1 dX5_clearLowest_5 rfl (Nat.le_of_ble_eq_true rfl) rfl ?_
  refine vv_iconst 7 (v := 0) dX5_clearLowest_6 rfl (by decide) ?_
  refine vv_istore 9 (L' := [some (.ref a0), some (.int x1), some (.long z1), none, some (.int (0 : Int32)), none]) dX5_clearLowest_7 rfl (Nat.le_of_ble_eq_true rfl) rfl ?_
  refine vv_iconst 10 (v := 0) dX5_clearLowest_9 rfl (by decide) ?_
  refine vv_istore 12 (L' := [some (.ref a0), some (.int x1), some (.long z1), none, some (.int (0 : Int32)), some (.int (0 : Int32))]) dX5_clearLowest_10 rfl (Nat.le_of_ble_eq_true rfl) rfl ?_
  exact VV.lle (v_X5_clearLowest_12 t_a0 FU _ _ _ _ hf) (lle_s (lle_n (lle_s (lle_s (lle_s (lle_s lle_nil))))))

theorem c_X5_clearLowest {w : Wo} {K : Kn} {a0 : Nat} {x1 : Int32} {q : (Int32 × Mem)} {m : Mem} (t_a0 : K a0 = some (.inl 4)) (hf : F_X5_clearLowest K m a0 x1 = some q) : MM w K K yX5_clearLowest cX5_clearLowest 6 (some .int) rm_X5_clearLowest [.ref a0, .int x1] m (some (.int q.1)) q.2 0 0 :=
  mm_of (ini := false) (n := 4) (plainFor_of_name (by decide)) rfl (fun h => by first | rfl | cases h) (Nat.le_of_ble_eq_true rfl) rfl (v_X5_clearLowest_0 t_a0 hf)

set_option maxHeartbeats 4000000 in
theorem v_X8_rounds_0 {w : Wo} {K : Kn} {a0 : Nat} {x1 : Int32} {x2 : Int32} {q : (Int32 × Mem)} (t_a0 : K a0 = some (.inl 7)) {m : Mem} (hf : f_X8_rounds K a0 x1 x2 m = some q) : VV w RX8 cX8_rounds 4 (some .int) rm_X8_rounds false (QM w K (some (.int q.1)) q.2 0 0) K 0 [some (.ref a0), some (.int x1), some (.int x2), none] [] 0 0 m := by
  unfold f_X8_rounds at hf
  refine vv_aload_n 1 dX8_rounds_0 rfl rfl ?_
  refine vv_iload_n 2 dX8_rounds_1 rfl rfl ?_
  obtain ⟨q1, g_q1, hf⟩ := bind_s hf
  refine vv_callV 5 (st := []) (As := [.int x1]) (stk2 := [.int q1]) (cl2 := 0) (sl2 := 0) dX8_rounds_2 rfl lk_RX8_81 w_469 w_0 rfl t_a0 ⟨(Nat.le_of_ble_eq_true rfl), (Nat.le_of_ble_eq_true rfl)⟩ rfl rfl ⟨(Nat.le_of_ble_eq_true rfl), (Nat.le_of_ble_eq_true rfl)⟩ rfl (Nat.le_of_ble_eq_true rfl) rfl rfl rfl rfl (c_X8_isNone t_a0 g_q1) ?_
  refine vv_if_ne 19 8 dX8_rounds_5 rfl (by decide) (fun c2 => ?_) (fun c2 => ?_)
  · rw [if_pos c2] at hf
    refine vv_iload_n 9 dX8_rounds_8 rfl rfl ?_
    refine vv_iconst 10 (v := 1) dX8_rounds_9 rfl (by decide) ?_
    refine vv_icmp_lt 19 13 dX8_rounds_10 rfl (by decide) (fun c3 => ?_) (fun c3 => ?_)
    · rw [if_pos c3] at hf
      refine vv_bipush 21 (v := (-2)) dX8_rounds_19 rfl (by decide) ?_
      obtain rfl := Option.some.inj hf
      exact vv_iret dX8_rounds_21 rfl
    · rw [if_neg c3] at hf
      refine vv_iload_n 14 dX8_rounds_13 rfl rfl ?_
      refine vv_bipush 16 (v := 52) dX8_rounds_14 rfl (by decide) ?_
      refine vv_icmp_le 22 19 dX8_rounds_16 rfl (by decide) (fun c4 => ?_) (fun c4 => ?_)
      · rw [if_pos c4] at hf
        refine vv_aload_n 23 dX8_rounds_22 rfl rfl ?_
        obtain ⟨b5, g_b5, hf⟩ := bind_s hf
        have t_b5 := (ldA_spec g_b5).2
        refine gf_RX8_11 26 dX8_rounds_23 rfl t_a0 (ldA_spec g_b5).1 ?_
        refine vv_iload_n 27 dX8_rounds_26 rfl rfl ?_
        obtain ⟨b6, g_b6, hf⟩ := bind_s hf
        have t_b6 := (alO_spec g_b6).2
        refine vv_aald3 28 dX8_rounds_27 rfl t_b5 g_b6 ?_
        obtain ⟨q7, g_q7, hf⟩ := bind_s hf
        refine vv_callV 31 (st := []) (As := []) (stk2 := [.int q7]) (cl2 := 0) (sl2 := 0) dX8_rounds_28 rfl lk_RX8_173 w_689 w_690 rfl t_b6 ⟨(Nat.le_of_ble_eq_true rfl), (Nat.le_of_ble_eq_true rfl)⟩ rfl rfl ⟨(Nat.le_of_ble_eq_true rfl), (Nat.le_of_ble_eq_true rfl)⟩ rfl (Nat.le_of_ble_eq_true rfl) rfl rfl rfl rfl (c_X7_broken t_b6 g_q7) ?_
        refine vv_if_eq 37 34 dX8_rounds_31 rfl (by decide) (fun c8 => ?_) (fun c8 => ?_)
        · rw [if_pos c8] at hf
          refine vv_aload_n 38 dX8_rounds_37 rfl rfl ?_
          refine vv_iload_n 39 dX8_rounds_38 rfl rfl ?_
          obtain ⟨q9, g_q9, hf⟩ := bind_s hf
          refine vv_callV 42 (st := []) (As := [.int x1]) (stk2 := [.ref q9.1]) (cl2 := 0) (sl2 := 0) dX8_rounds_39 rfl lk_RX8_176 w_694 w_11 rfl t_a0 ⟨(Nat.le_of_ble_eq_true rfl), (Nat.le_of_ble_eq_true rfl)⟩ rfl rfl ⟨(Nat.le_of_ble_eq_true rfl), (Nat.le_of_ble_eq_true rfl)⟩ rfl (Nat.le_of_ble_eq_true rfl) rfl rfl rfl rfl (c_X8_gathered t_a0 g_q9) ?_
          obtain ⟨t_10, hf⟩ := gd_s hf
          refine vv_iload_n 43 dX8_rounds_42 rfl rfl ?_
          obtain ⟨q11, g_q11, hf⟩ := bind_s hf
          refine vv_callV 46 (st := []) (As := [.int x2]) (stk2 := [.int q11.1]) (cl2 := 0) (sl2 := 0) dX8_rounds_43 rfl lk_RX8_343 w_1045 w_1046 rfl t_10 ⟨(Nat.le_of_ble_eq_true rfl), (Nat.le_of_ble_eq_true rfl)⟩ rfl rfl ⟨(Nat.le_of_ble_eq_true rfl), (Nat.le_of_ble_eq_true rfl)⟩ rfl (Nat.le_of_ble_eq_true rfl) rfl rfl rfl rfl (c_X5_clearLowest t_10 g_q11) ?_
          obtain ⟨z12, e_z12, hf⟩ := bd_s hf
          refine vv_istore_nE (q := 47) (v := z12) (L' := [some (.ref a0), some (.int x1), some (.int x2), some (.int z12)]) e_z12 dX8_rounds_46 rfl (Nat.le_of_ble_eq_true rfl) rfl ?_
          refine vv_aload_n 48 dX8_rounds_47 rfl rfl ?_
          refine vv_iload_n 49 dX8_rounds_48 rfl rfl ?_
          refine vv_aload_n 50 dX8_rounds_49 rfl rfl ?_
          obtain ⟨b13, g_b13, hf⟩ := bind_s hf
          have t_b13 := (ldA_spec g_b13).2
          refine gf_RX8_11 53 dX8_rounds_50 rfl t_a0 (ldA_spec g_b13).1 ?_
          refine vv_iload_n 54 dX8_rounds_53 rfl rfl ?_
          obtain ⟨b14, g_b14, hf⟩ := bind_s hf
          have t_b14 := (alO_spec g_b14).2
          refine vv_aald3 55 dX8_rounds_54 rfl t_b13 g_b14 ?_
          refine gf_RX8_145 58 dX8_rounds_55 rfl t_b14 ?_
          obtain ⟨q15, g_q15, hf⟩ := bind_s hf
          refine vv_callV 61 (st := []) (As := [.int x1, .int (gI q11.2 b14 4)]) (stk2 := [.int q15.1]) (cl2 := 0) (sl2 := 0) dX8_rounds_58 rfl lk_RX8_333 w_1013 w_18 rfl t_a0 ⟨(Nat.le_of_ble_eq_true rfl), (Nat.le_of_ble_eq_true rfl)⟩ rfl rfl ⟨(Nat.le_of_ble_eq_true rfl), (Nat.le_of_ble_eq_true rfl)⟩ rfl (Nat.le_of_ble_eq_true rfl) rfl rfl rfl rfl (c_X8_packMine t_a0 g_q15) ?_
          refine vv_if_ge 69 64 dX8_rounds_61 rfl (by decide) (fun c16 => ?_) (fun c16 => ?_)
          · rw [if_pos c16] at hf
            refine vv_iload_n 70 dX8_rounds_69 rfl rfl ?_
            obtain rfl := Option.some.inj hf
            exact vv_iret dX8_rounds_70 rfl
          · rw [if_neg c16] at hf
            refine vv_bipush 66 (v := (-4)) dX8_rounds_64 rfl (by decide) ?_
            refine vv_goto 70 dX8_rounds_66 (by decide) ?_
            obtain rfl := Option.some.inj hf
            exact vv_iret dX8_rounds_70 rfl
        · rw [if_neg c8] at hf
          refine vv_bipush 36 (v := (-6)) dX8_rounds_34 rfl (by decide) ?_
          obtain rfl := Option.some.inj hf
          exact vv_iret dX8_rounds_36 rfl
      · rw [if_neg c4] at hf
        refine vv_bipush 21 (v := (-2)) dX8_rounds_19 rfl (by decide) ?_
        obtain rfl := Option.some.inj hf
        exact vv_iret dX8_rounds_21 rfl
  · rw [if_neg c2] at hf
    refine vv_bipush 21 (v := (-2)) dX8_rounds_19 rfl (by decide) ?_
    obtain rfl := Option.some.inj hf
    exact vv_iret dX8_rounds_21 rfl

theorem c_X8_rounds {w : Wo} {K : Kn} {a0 : Nat} {x1 : Int32} {x2 : Int32} {q : (Int32 × Mem)} {m : Mem} (t_a0 : K a0 = some (.inl 7)) (hf : F_X8_rounds K m a0 x1 x2 = some q) : MM w K K yX8_rounds cX8_rounds 4 (some .int) rm_X8_rounds [.ref a0, .int x1, .int x2] m (some (.int q.1)) q.2 0 0 :=
  mm_of (ini := false) (n := 1) (plainFor_of_name (by decide)) rfl (fun h => by first | rfl | cases h) (Nat.le_of_ble_eq_true rfl) rfl (v_X8_rounds_0 t_a0 hf)

set_option maxHeartbeats 4000000 in
theorem v_X8_rounded_0 {w : Wo} {K : Kn} {a0 : Nat} {x1 : Int32} {x2 : Int32} {q : (Int32 × Mem)} (t_a0 : K a0 = some (.inl 7)) {m : Mem} (hf : f_X8_rounded K a0 x1 x2 m = some q) : VV w RX8 cX8_rounded 3 (some .int) rm_X8_rounded false (QM w K (some (.int q.1)) q.2 0 0) K 0 [some (.ref a0), some (.int x1), some (.int x2)] [] 0 0 m := by
  unfold f_X8_rounded at hf
  refine vv_aload_n 1 dX8_rounded_0 rfl rfl ?_
  refine vv_iload_n 2 dX8_rounded_1 rfl rfl ?_
  obtain ⟨q1, g_q1, hf⟩ := bind_s hf
  refine vv_callV 5 (st := []) (As := [.int x1]) (stk2 := [.int q1]) (cl2 := 0) (sl2 := 0) dX8_rounded_2 rfl lk_RX8_81 w_469 w_0 rfl t_a0 ⟨(Nat.le_of_ble_eq_true rfl), (Nat.le_of_ble_eq_true rfl)⟩ rfl rfl ⟨(Nat.le_of_ble_eq_true rfl), (Nat.le_of_ble_eq_true rfl)⟩ rfl (Nat.le_of_ble_eq_true rfl) rfl rfl rfl rfl (c_X8_isNone t_a0 g_q1) ?_
  refine vv_if_ne 19 8 dX8_rounded_5 rfl (by decide) (fun c2 => ?_) (fun c2 => ?_)
  · rw [if_pos c2] at hf
    refine vv_iload_n 9 dX8_rounded_8 rfl rfl ?_
    refine vv_iconst 10 (v := 1) dX8_rounded_9 rfl (by decide) ?_
    refine vv_icmp_lt 19 13 dX8_rounded_10 rfl (by decide) (fun c3 => ?_) (fun c3 => ?_)
    · rw [if_pos c3] at hf
      refine vv_bipush 21 (v := (-2)) dX8_rounded_19 rfl (by decide) ?_
      obtain rfl := Option.some.inj hf
      exact vv_iret dX8_rounded_21 rfl
    · rw [if_neg c3] at hf
      refine vv_iload_n 14 dX8_rounded_13 rfl rfl ?_
      refine vv_bipush 16 (v := 52) dX8_rounded_14 rfl (by decide) ?_
      refine vv_icmp_le 22 19 dX8_rounded_16 rfl (by decide) (fun c4 => ?_) (fun c4 => ?_)
      · rw [if_pos c4] at hf
        refine vv_aload_n 23 dX8_rounded_22 rfl rfl ?_
        obtain ⟨b5, g_b5, hf⟩ := bind_s hf
        have t_b5 := (ldA_spec g_b5).2
        refine gf_RX8_11 26 dX8_rounded_23 rfl t_a0 (ldA_spec g_b5).1 ?_
        refine vv_iload_n 27 dX8_rounded_26 rfl rfl ?_
        obtain ⟨b6, g_b6, hf⟩ := bind_s hf
        have t_b6 := (alO_spec g_b6).2
        refine vv_aald3 28 dX8_rounded_27 rfl t_b5 g_b6 ?_
        obtain ⟨q7, g_q7, hf⟩ := bind_s hf
        refine vv_callV 31 (st := []) (As := []) (stk2 := [.int q7]) (cl2 := 0) (sl2 := 0) dX8_rounded_28 rfl lk_RX8_173 w_689 w_690 rfl t_b6 ⟨(Nat.le_of_ble_eq_true rfl), (Nat.le_of_ble_eq_true rfl)⟩ rfl rfl ⟨(Nat.le_of_ble_eq_true rfl), (Nat.le_of_ble_eq_true rfl)⟩ rfl (Nat.le_of_ble_eq_true rfl) rfl rfl rfl rfl (c_X7_broken t_b6 g_q7) ?_
        refine vv_if_eq 37 34 dX8_rounded_31 rfl (by decide) (fun c8 => ?_) (fun c8 => ?_)
        · rw [if_pos c8] at hf
          refine vv_aload_n 38 dX8_rounded_37 rfl rfl ?_
          refine vv_iload_n 39 dX8_rounded_38 rfl rfl ?_
          obtain ⟨q9, g_q9, hf⟩ := bind_s hf
          refine vv_callV 42 (st := []) (As := [.int x1]) (stk2 := [.ref q9.1]) (cl2 := 0) (sl2 := 0) dX8_rounded_39 rfl lk_RX8_176 w_694 w_11 rfl t_a0 ⟨(Nat.le_of_ble_eq_true rfl), (Nat.le_of_ble_eq_true rfl)⟩ rfl rfl ⟨(Nat.le_of_ble_eq_true rfl), (Nat.le_of_ble_eq_true rfl)⟩ rfl (Nat.le_of_ble_eq_true rfl) rfl rfl rfl rfl (c_X8_gathered t_a0 g_q9) ?_
          obtain ⟨t_10, hf⟩ := gd_s hf
          refine vv_iload_n 43 dX8_rounded_42 rfl rfl ?_
          obtain ⟨q11, g_q11, hf⟩ := bind_s hf
          refine vv_callV 46 (st := []) (As := [.int x2]) (stk2 := [.int q11.1]) (cl2 := 0) (sl2 := 0) dX8_rounded_43 rfl lk_RX8_343 w_1045 w_1046 rfl t_10 ⟨(Nat.le_of_ble_eq_true rfl), (Nat.le_of_ble_eq_true rfl)⟩ rfl rfl ⟨(Nat.le_of_ble_eq_true rfl), (Nat.le_of_ble_eq_true rfl)⟩ rfl (Nat.le_of_ble_eq_true rfl) rfl rfl rfl rfl (c_X5_clearLowest t_10 g_q11) ?_
          refine vv_pop 47 dX8_rounded_46 rfl rfl ?_
          refine vv_aload_n 48 dX8_rounded_47 rfl rfl ?_
          obtain ⟨b12, g_b12, hf⟩ := bind_s hf
          have t_b12 := (ldO_spec g_b12).2
          refine gf_RX8_51 51 dX8_rounded_48 rfl t_a0 (ldO_spec g_b12).1 ?_
          refine vv_aload_n 52 dX8_rounded_51 rfl rfl ?_
          obtain ⟨b13, g_b13, hf⟩ := bind_s hf
          have t_b13 := (ldO_spec g_b13).2
          refine gf_RX8_25 55 dX8_rounded_52 rfl t_a0 (ldO_spec g_b13).1 ?_
          refine vv_aload_n 56 dX8_rounded_55 rfl rfl ?_
          obtain ⟨b14, g_b14, hf⟩ := bind_s hf
          have t_b14 := (ldA_spec g_b14).2
          refine gf_RX8_11 59 dX8_rounded_56 rfl t_a0 (ldA_spec g_b14).1 ?_
          refine vv_iload_n 60 dX8_rounded_59 rfl rfl ?_
          obtain ⟨b15, g_b15, hf⟩ := bind_s hf
          have t_b15 := (alO_spec g_b15).2
          refine vv_aald3 61 dX8_rounded_60 rfl t_b14 g_b15 ?_
          refine gf_RX8_145 64 dX8_rounded_61 rfl t_b15 ?_
          obtain ⟨q16, g_q16, hf⟩ := bind_s hf
          refine vv_callV 67 (st := []) (As := [.ref b13, .int (gI q11.2 b15 4)]) (stk2 := [.int q16.1]) (cl2 := 0) (sl2 := 0) dX8_rounded_64 rfl lk_RX8_346 w_1057 w_1058 rfl t_b12 ⟨(Nat.le_of_ble_eq_true rfl), (Nat.le_of_ble_eq_true rfl)⟩ rfl rfl ⟨(Nat.le_of_ble_eq_true rfl), (Nat.le_of_ble_eq_true rfl)⟩ rfl (Nat.le_of_ble_eq_true rfl) rfl rfl rfl rfl (c_X1_bytesBy t_b12 t_b13 g_q16) ?_
          obtain rfl := Option.some.inj hf
          exact vv_iret dX8_rounded_67 rfl
        · rw [if_neg c8] at hf
          refine vv_bipush 36 (v := (-6)) dX8_rounded_34 rfl (by decide) ?_
          obtain rfl := Option.some.inj hf
          exact vv_iret dX8_rounded_36 rfl
      · rw [if_neg c4] at hf
        refine vv_bipush 21 (v := (-2)) dX8_rounded_19 rfl (by decide) ?_
        obtain rfl := Option.some.inj hf
        exact vv_iret dX8_rounded_21 rfl
  · rw [if_neg c2] at hf
    refine vv_bipush 21 (v := (-2)) dX8_rounded_19 rfl (by decide) ?_
    obtain rfl := Option.some.inj hf
    exact vv_iret dX8_rounded_21 rfl

theorem c_X8_rounded {w : Wo} {K : Kn} {a0 : Nat} {x1 : Int32} {x2 : Int32} {q : (Int32 × Mem)} {m : Mem} (t_a0 : K a0 = some (.inl 7)) (hf : F_X8_rounded K m a0 x1 x2 = some q) : MM w K K yX8_rounded cX8_rounded 3 (some .int) rm_X8_rounded [.ref a0, .int x1, .int x2] m (some (.int q.1)) q.2 0 0 :=
  mm_of (ini := false) (n := 0) (plainFor_of_name (by decide)) rfl (fun h => by first | rfl | cases h) (Nat.le_of_ble_eq_true rfl) rfl (v_X8_rounded_0 t_a0 hf)

set_option maxHeartbeats 4000000 in
theorem v_X6_findDearest_63 {w : Wo} {K : Kn} {a0 : Nat} {a1 : Nat} {x2 : Int32} {q : (Int32 × Mem)} (t_a0 : K a0 = some (.inl 5)) (t_a1 : K a1 = some (.inl 0)) (k12 : Mem → Int32 → Option (Int32 × Mem)) (hk12 : ∀ (m : Mem) (x3 : Int32), k12 m x3 = some q → VV w RX6 cX6_findDearest 4 (some .boolean) rm_X6_findDearest false (QM w K (some (.int q.1)) q.2 0 0) K 12 [some (.ref a0), some (.ref a1), some (.int x2), some (.int x3)] [] 0 0 m) {m : Mem} {x3 : Int32} (hf : f_X6_findDearest_63 K a0 a1 x2 k12 m x3 = some q) : VV w RX6 cX6_findDearest 4 (some .boolean) rm_X6_findDearest false (QM w K (some (.int q.1)) q.2 0 0) K 63 [some (.ref a0), some (.ref a1), some (.int x2), some (.int x3)] [] 0 0 m := by
  unfold f_X6_findDearest_63 at hf
  obtain ⟨z1, e_z1, hf⟩ := bd_s hf
  refine vv_iincE (q := 66) (v := z1) (c := 1) (L' := [some (.ref a0), some (.ref a1), some (.int x2), some (.int z1)]) e_z1 dX6_findDearest_63 rfl rfl (by decide) (Nat.le_of_ble_eq_true rfl) rfl ?_
  refine vv_goto 12 dX6_findDearest_66 (by decide) ?_
  exact hk12 _ _ hf

set_option maxHeartbeats 4000000 in
theorem v_X6_findDearest_69 {w : Wo} {K : Kn} {a0 : Nat} {a1 : Nat} {x2 : Int32} {q : (Int32 × Mem)} (t_a0 : K a0 = some (.inl 5)) (t_a1 : K a1 = some (.inl 0)) {m : Mem} (hf : f_X6_findDearest_69 K a0 a1 x2 m = some q) : VV w RX6 cX6_findDearest 4 (some .boolean) rm_X6_findDearest false (QM w K (some (.int q.1)) q.2 0 0) K 69 [some (.ref a0), none, some (.int x2), none] [] 0 0 m := by
  unfold f_X6_findDearest_69 at hf
  refine vv_aload_n 70 dX6_findDearest_69 rfl rfl ?_
  refine gf_RX6_145 73 dX6_findDearest_70 rfl t_a0 ?_
  refine vv_iload_n 74 dX6_findDearest_73 rfl rfl ?_
  refine vv_icmp_le 81 77 dX6_findDearest_74 rfl (by decide) (fun c1 => ?_) (fun c1 => ?_)
  · rw [if_pos c1] at hf
    refine vv_iconst 82 (v := 0) dX6_findDearest_81 rfl (by decide) ?_
    obtain rfl := Option.some.inj hf
    exact vv_zret dX6_findDearest_82 rfl (Or.inl rfl)
  · rw [if_neg c1] at hf
    refine vv_iconst 78 (v := 1) dX6_findDearest_77 rfl (by decide) ?_
    refine vv_goto 82 dX6_findDearest_78 (by decide) ?_
    obtain rfl := Option.some.inj hf
    exact vv_zret dX6_findDearest_82 rfl (Or.inr rfl)

set_option maxHeartbeats 4000000 in
theorem v_X6_findDearest_12B {w : Wo} {K : Kn} {a0 : Nat} {a1 : Nat} {x2 : Int32} {q : (Int32 × Mem)} (t_a0 : K a0 = some (.inl 5)) (t_a1 : K a1 = some (.inl 0)) (k12 : Mem → Int32 → Option (Int32 × Mem)) (hk12 : ∀ (m : Mem) (x3 : Int32), k12 m x3 = some q → VV w RX6 cX6_findDearest 4 (some .boolean) rm_X6_findDearest false (QM w K (some (.int q.1)) q.2 0 0) K 12 [some (.ref a0), some (.ref a1), some (.int x2), some (.int x3)] [] 0 0 m) {m : Mem} {x3 : Int32} (hf : f_X6_findDearest_12B K a0 a1 x2 k12 m x3 = some q) : VV w RX6 cX6_findDearest 4 (some .boolean) rm_X6_findDearest false (QM w K (some (.int q.1)) q.2 0 0) K 12 [some (.ref a0), some (.ref a1), some (.int x2), some (.int x3)] [] 0 0 m := by
  unfold f_X6_findDearest_12B at hf
  refine vv_iload_n 13 dX6_findDearest_12 rfl rfl ?_
  refine vv_aload_n 14 dX6_findDearest_13 rfl rfl ?_
  refine gf_RX6_144 17 dX6_findDearest_14 rfl t_a1 ?_
  refine vv_icmp_ge 69 20 dX6_findDearest_17 rfl (by decide) (fun c1 => ?_) (fun c1 => ?_)
  · rw [if_pos c1] at hf
    exact VV.lle (v_X6_findDearest_69 t_a0 t_a1 hf) (lle_s (lle_n (lle_s (lle_n lle_nil))))
  · rw [if_neg c1] at hf
    refine vv_aload_n 21 dX6_findDearest_20 rfl rfl ?_
    obtain ⟨q2, g_q2, hf⟩ := bind_s hf
    refine vv_callV 24 (st := []) (As := []) (stk2 := [.int q2.1]) (cl2 := 0) (sl2 := 0) dX6_findDearest_21 rfl lk_RX6_71 w_638 w_639 rfl t_a0 ⟨(Nat.le_of_ble_eq_true rfl), (Nat.le_of_ble_eq_true rfl)⟩ rfl rfl ⟨(Nat.le_of_ble_eq_true rfl), (Nat.le_of_ble_eq_true rfl)⟩ rfl (Nat.le_of_ble_eq_true rfl) rfl rfl rfl rfl (c_X6_read t_a0 g_q2) ?_
    refine vv_if_ne 69 27 dX6_findDearest_24 rfl (by decide) (fun c3 => ?_) (fun c3 => ?_)
    · rw [if_pos c3] at hf
      refine vv_aload_n 28 dX6_findDearest_27 rfl rfl ?_
      obtain ⟨b4, g_b4, hf⟩ := bind_s hf
      have t_b4 := (ldO_spec g_b4).2
      refine gf_RX6_12 31 dX6_findDearest_28 rfl t_a0 (ldO_spec g_b4).1 ?_
      refine gf_RX6_148 34 dX6_findDearest_31 rfl t_b4 ?_
      refine vv_aload_n 35 dX6_findDearest_34 rfl rfl ?_
      refine gf_RX6_145 38 dX6_findDearest_35 rfl t_a0 ?_
      refine vv_icmp_le 63 41 dX6_findDearest_38 rfl (by decide) (fun c5 => ?_) (fun c5 => ?_)
      · rw [if_pos c5] at hf
        exact v_X6_findDearest_63 t_a0 t_a1 k12 hk12 hf
      · rw [if_neg c5] at hf
        refine vv_aload_n 42 dX6_findDearest_41 rfl rfl ?_
        refine vv_aload_n 43 dX6_findDearest_42 rfl rfl ?_
        obtain ⟨b6, g_b6, hf⟩ := bind_s hf
        have t_b6 := (ldO_spec g_b6).2
        refine gf_RX6_12 46 dX6_findDearest_43 rfl t_a0 (ldO_spec g_b6).1 ?_
        refine gf_RX6_148 49 dX6_findDearest_46 rfl t_b6 ?_
        obtain ⟨m7, e_m7, hf⟩ := bd_s hf
        refine pf_RX6_145 52 dX6_findDearest_49 rfl t_a0 e_m7 ?_
        refine vv_aload_n 53 dX6_findDearest_52 rfl rfl ?_
        refine vv_aload_n 54 dX6_findDearest_53 rfl rfl ?_
        obtain ⟨b8, g_b8, hf⟩ := bind_s hf
        have t_b8 := (ldO_spec g_b8).2
        refine gf_RX6_12 57 dX6_findDearest_54 rfl t_a0 (ldO_spec g_b8).1 ?_
        refine gf_RX6_79 60 dX6_findDearest_57 rfl t_b8 ?_
        obtain ⟨m9, e_m9, hf⟩ := bd_s hf
        refine pf_RX6_151 63 dX6_findDearest_60 rfl t_a0 e_m9 ?_
        exact v_X6_findDearest_63 t_a0 t_a1 k12 hk12 hf
    · rw [if_neg c3] at hf
      exact VV.lle (v_X6_findDearest_69 t_a0 t_a1 hf) (lle_s (lle_n (lle_s (lle_n lle_nil))))

theorem v_X6_findDearest_12 {w : Wo} {K : Kn} {a0 : Nat} {a1 : Nat} {x2 : Int32} {q : (Int32 × Mem)} (t_a0 : K a0 = some (.inl 5)) (t_a1 : K a1 = some (.inl 0)) : ∀ (n : Nat) (m : Mem) (x3 : Int32), f_X6_findDearest_12 K a0 a1 x2 n m x3 = some q → VV w RX6 cX6_findDearest 4 (some .boolean) rm_X6_findDearest false (QM w K (some (.int q.1)) q.2 0 0) K 12 [some (.ref a0), some (.ref a1), some (.int x2), some (.int x3)] [] 0 0 m := by
  intro n
  induction n with
  | zero => intro m x3 hf; cases hf
  | succ n ih => intro m x3 hf; exact v_X6_findDearest_12B (a0 := a0) (a1 := a1) (x2 := x2) t_a0 t_a1 (f_X6_findDearest_12 K a0 a1 x2 n) ih hf

set_option maxHeartbeats 4000000 in
theorem v_X6_findDearest_0 {w : Wo} {K : Kn} {a0 : Nat} {a1 : Nat} {x2 : Int32} {q : (Int32 × Mem)} (t_a0 : K a0 = some (.inl 5)) (t_a1 : K a1 = some (.inl 0)) {m : Mem} (hf : f_X6_findDearest K a0 a1 x2 m = some q) : VV w RX6 cX6_findDearest 4 (some .boolean) rm_X6_findDearest false (QM w K (some (.int q.1)) q.2 0 0) K 0 [some (.ref a0), some (.ref a1), some (.int x2), none] [] 0 0 m := by
  unfold f_X6_findDearest at hf
  refine vv_aload_n 1 dX6_findDearest_0 rfl rfl ?_
  refine vv_iload_n 2 dX6_findDearest_1 rfl rfl ?_
  obtain ⟨m1, e_m1, hf⟩ := bd_s hf
  refine pf_RX6_145 5 dX6_findDearest_2 rfl t_a0 e_m1 ?_
  refine vv_aload_n 6 dX6_findDearest_5 rfl rfl ?_
  refine vv_aload_n 7 dX6_findDearest_6 rfl rfl ?_
  obtain ⟨q2, g_q2, hf⟩ := bind_s hf
  refine vv_callV 10 (st := []) (As := [.ref a1]) (stk2 := []) (cl2 := 0) (sl2 := 0) dX6_findDearest_7 rfl lk_RX6_63 w_628 w_629 rfl t_a0 ⟨(Nat.le_of_ble_eq_true rfl), (Nat.le_of_ble_eq_true rfl)⟩ rfl rfl ⟨(Nat.le_of_ble_eq_true rfl), (Nat.le_of_ble_eq_true rfl)⟩ rfl (Nat.le_of_ble_eq_true rfl) rfl rfl rfl rfl (c_X6_open t_a0 t_a1 g_q2) ?_
  refine vv_iconst 11 (v := 1) dX6_findDearest_10 rfl (by decide) ?_
  refine vv_istore_n 12 (L' := [some (.ref a0), some (.ref a1), some (.int x2), some (.int (1 : Int32))]) dX6_findDearest_11 rfl (Nat.le_of_ble_eq_true rfl) rfl ?_
  exact v_X6_findDearest_12 t_a0 t_a1 FU _ _ hf

theorem c_X6_findDearest {w : Wo} {K : Kn} {a0 : Nat} {a1 : Nat} {x2 : Int32} {q : (Int32 × Mem)} {m : Mem} (t_a0 : K a0 = some (.inl 5)) (t_a1 : K a1 = some (.inl 0)) (hf : F_X6_findDearest K m a0 a1 x2 = some q) : MM w K K yX6_findDearest cX6_findDearest 4 (some .boolean) rm_X6_findDearest [.ref a0, .ref a1, .int x2] m (some (.int q.1)) q.2 0 0 :=
  mm_of (ini := false) (n := 1) (plainFor_of_name (by decide)) rfl (fun h => by first | rfl | cases h) (Nat.le_of_ble_eq_true rfl) rfl (v_X6_findDearest_0 t_a0 t_a1 hf)

set_option maxHeartbeats 4000000 in
theorem v_X8_dearest_94 {w : Wo} {K : Kn} {a0 : Nat} {x1 : Int32} {x2 : Int32} {q : (Int32 × Mem)} (t_a0 : K a0 = some (.inl 7)) (k36 : Mem → Nat → Int32 → Int32 → Int32 → Option (Int32 × Mem)) (hk36 : ∀ (m : Mem) (a3 : Nat) (x4 : Int32) (x5 : Int32) (x6 : Int32), K a3 = some (.inl 6) → k36 m a3 x4 x5 x6 = some q → VV w RX8 cX8_dearest 8 (some .int) rm_X8_dearest false (QM w K (some (.int q.1)) q.2 0 0) K 36 [some (.ref a0), none, some (.int x2), some (.ref a3), some (.int x4), some (.int x5), some (.int x6), none] [] 0 0 m) {m : Mem} {a3 : Nat} {x4 : Int32} {x5 : Int32} {x6 : Int32} (t_a3 : K a3 = some (.inl 6)) (hf : f_X8_dearest_94 K a0 x1 x2 k36 m a3 x4 x5 x6 = some q) : VV w RX8 cX8_dearest 8 (some .int) rm_X8_dearest false (QM w K (some (.int q.1)) q.2 0 0) K 94 [some (.ref a0), none, some (.int x2), some (.ref a3), some (.int x4), some (.int x5), some (.int x6), none] [] 0 0 m := by
  unfold f_X8_dearest_94 at hf
  obtain ⟨z1, e_z1, hf⟩ := bd_s hf
  refine vv_iincE (q := 97) (v := z1) (c := 1) (L' := [some (.ref a0), none, some (.int x2), some (.ref a3), some (.int x4), some (.int x5), some (.int z1), none]) e_z1 dX8_dearest_94 rfl rfl (by decide) (Nat.le_of_ble_eq_true rfl) rfl ?_
  refine vv_goto 36 dX8_dearest_97 (by decide) ?_
  exact hk36 _ _ _ _ _ t_a3 hf

set_option maxHeartbeats 4000000 in
theorem v_X8_dearest_110 {w : Wo} {K : Kn} {a0 : Nat} {x1 : Int32} {x2 : Int32} {q : (Int32 × Mem)} (t_a0 : K a0 = some (.inl 7)) {m : Mem} {x5 : Int32} (hf : f_X8_dearest_110 K a0 x1 x2 m x5 = some q) : VV w RX8 cX8_dearest 8 (some .int) rm_X8_dearest false (QM w K (some (.int q.1)) q.2 0 0) K 110 [none, none, none, none, none, some (.int x5), none, none] [] 0 0 m := by
  unfold f_X8_dearest_110 at hf
  refine vv_iload 112 dX8_dearest_110 rfl rfl ?_
  refine vv_goto 117 dX8_dearest_112 (by decide) ?_
  obtain rfl := Option.some.inj hf
  exact vv_iret dX8_dearest_117 rfl

set_option maxHeartbeats 4000000 in
theorem v_X8_dearest_36B {w : Wo} {K : Kn} {a0 : Nat} {x1 : Int32} {x2 : Int32} {q : (Int32 × Mem)} (t_a0 : K a0 = some (.inl 7)) (k36 : Mem → Nat → Int32 → Int32 → Int32 → Option (Int32 × Mem)) (hk36 : ∀ (m : Mem) (a3 : Nat) (x4 : Int32) (x5 : Int32) (x6 : Int32), K a3 = some (.inl 6) → k36 m a3 x4 x5 x6 = some q → VV w RX8 cX8_dearest 8 (some .int) rm_X8_dearest false (QM w K (some (.int q.1)) q.2 0 0) K 36 [some (.ref a0), none, some (.int x2), some (.ref a3), some (.int x4), some (.int x5), some (.int x6), none] [] 0 0 m) {m : Mem} {a3 : Nat} {x4 : Int32} {x5 : Int32} {x6 : Int32} (t_a3 : K a3 = some (.inl 6)) (hf : f_X8_dearest_36B K a0 x1 x2 k36 m a3 x4 x5 x6 = some q) : VV w RX8 cX8_dearest 8 (some .int) rm_X8_dearest false (QM w K (some (.int q.1)) q.2 0 0) K 36 [some (.ref a0), none, some (.int x2), some (.ref a3), some (.int x4), some (.int x5), some (.int x6), none] [] 0 0 m := by
  unfold f_X8_dearest_36B at hf
  refine vv_iload 38 dX8_dearest_36 rfl rfl ?_
  refine vv_aload_n 39 dX8_dearest_38 rfl rfl ?_
  refine gf_RX8_169 42 dX8_dearest_39 rfl t_a3 ?_
  refine vv_icmp_ge 100 45 dX8_dearest_42 rfl (by decide) (fun c1 => ?_) (fun c1 => ?_)
  · rw [if_pos c1] at hf
    refine vv_iload_n 101 dX8_dearest_100 rfl rfl ?_
    refine vv_if_eq 110 104 dX8_dearest_101 rfl (by decide) (fun c2 => ?_) (fun c2 => ?_)
    · rw [if_pos c2] at hf
      exact VV.lle (v_X8_dearest_110 t_a0 hf) (lle_n (lle_s (lle_n (lle_n (lle_n (lle_s (lle_n (lle_s lle_nil))))))))
    · rw [if_neg c2] at hf
      refine vv_iload 106 dX8_dearest_104 rfl rfl ?_
      refine vv_iconst 107 (v := (-1)) dX8_dearest_106 rfl (by decide) ?_
      refine vv_icmp_ne 115 110 dX8_dearest_107 rfl (by decide) (fun c3 => ?_) (fun c3 => ?_)
      · rw [if_pos c3] at hf
        exact VV.lle (v_X8_dearest_110 t_a0 hf) (lle_n (lle_s (lle_n (lle_n (lle_n (lle_s (lle_n (lle_s lle_nil))))))))
      · rw [if_neg c3] at hf
        refine vv_iload 117 dX8_dearest_115 rfl rfl ?_
        obtain rfl := Option.some.inj hf
        exact vv_iret dX8_dearest_117 rfl
  · rw [if_neg c1] at hf
    refine vv_aload_n 46 dX8_dearest_45 rfl rfl ?_
    obtain ⟨b4, g_b4, hf⟩ := bind_s hf
    have t_b4 := (ldA_spec g_b4).2
    refine gf_RX8_205 49 dX8_dearest_46 rfl t_a3 (ldA_spec g_b4).1 ?_
    refine vv_iload 51 dX8_dearest_49 rfl rfl ?_
    obtain ⟨b5, g_b5, hf⟩ := bind_s hf
    have t_b5 := (alO_spec g_b5).2
    refine vv_aald4 52 dX8_dearest_51 rfl t_b4 g_b5 ?_
    refine vv_astore 54 (L' := [some (.ref a0), none, some (.int x2), some (.ref a3), some (.int x4), some (.int x5), some (.int x6), some (.ref b5)]) dX8_dearest_52 rfl (Nat.le_of_ble_eq_true rfl) rfl ?_
    refine vv_aload 56 dX8_dearest_54 rfl rfl ?_
    refine gf_RX8_180 59 dX8_dearest_56 rfl t_b5 ?_
    refine vv_if_ne 94 62 dX8_dearest_59 rfl (by decide) (fun c6 => ?_) (fun c6 => ?_)
    · rw [if_pos c6] at hf
      refine vv_aload_n 63 dX8_dearest_62 rfl rfl ?_
      obtain ⟨b7, g_b7, hf⟩ := bind_s hf
      have t_b7 := (ldO_spec g_b7).2
      refine gf_RX8_44 66 dX8_dearest_63 rfl t_a0 (ldO_spec g_b7).1 ?_
      refine vv_aload 68 dX8_dearest_66 rfl rfl ?_
      refine vv_iload 70 dX8_dearest_68 rfl rfl ?_
      obtain ⟨q8, g_q8, hf⟩ := bind_s hf
      refine vv_callV 73 (st := []) (As := [.ref b5, .int x4]) (stk2 := [.int q8.1]) (cl2 := 0) (sl2 := 0) dX8_dearest_70 rfl lk_RX8_218 w_769 w_770 rfl t_b7 ⟨(Nat.le_of_ble_eq_true rfl), (Nat.le_of_ble_eq_true rfl)⟩ rfl rfl ⟨(Nat.le_of_ble_eq_true rfl), (Nat.le_of_ble_eq_true rfl)⟩ rfl (Nat.le_of_ble_eq_true rfl) rfl rfl rfl rfl (c_X6_findDearest t_b7 t_b5 g_q8) ?_
      refine vv_if_eq 94 76 dX8_dearest_73 rfl (by decide) (fun c9 => ?_) (fun c9 => ?_)
      · rw [if_pos c9] at hf
        exact VV.lle (v_X8_dearest_94 t_a0 k36 hk36 t_a3 hf) (lle_s (lle_s (lle_s (lle_s (lle_s (lle_s (lle_s (lle_n lle_nil))))))))
      · rw [if_neg c9] at hf
        refine vv_aload_n 77 dX8_dearest_76 rfl rfl ?_
        obtain ⟨b10, g_b10, hf⟩ := bind_s hf
        have t_b10 := (ldO_spec g_b10).2
        refine gf_RX8_44 80 dX8_dearest_77 rfl t_a0 (ldO_spec g_b10).1 ?_
        refine gf_RX8_222 83 dX8_dearest_80 rfl t_b10 ?_
        obtain ⟨z11, e_z11, hf⟩ := bd_s hf
        refine vv_istoreE (q := 85) (v := z11) (L' := [some (.ref a0), none, some (.int x2), some (.ref a3), some (.int z11), some (.int x5), some (.int x6), some (.ref b5)]) e_z11 dX8_dearest_83 rfl (Nat.le_of_ble_eq_true rfl) rfl ?_
        refine vv_aload_n 86 dX8_dearest_85 rfl rfl ?_
        obtain ⟨b12, g_b12, hf⟩ := bind_s hf
        have t_b12 := (ldO_spec g_b12).2
        refine gf_RX8_44 89 dX8_dearest_86 rfl t_a0 (ldO_spec g_b12).1 ?_
        refine gf_RX8_225 92 dX8_dearest_89 rfl t_b12 ?_
        obtain ⟨z13, e_z13, hf⟩ := bd_s hf
        refine vv_istoreE (q := 94) (v := z13) (L' := [some (.ref a0), none, some (.int x2), some (.ref a3), some (.int z11), some (.int z13), some (.int x6), some (.ref b5)]) e_z13 dX8_dearest_92 rfl (Nat.le_of_ble_eq_true rfl) rfl ?_
        exact VV.lle (v_X8_dearest_94 t_a0 k36 hk36 t_a3 hf) (lle_s (lle_s (lle_s (lle_s (lle_s (lle_s (lle_s (lle_n lle_nil))))))))
    · rw [if_neg c6] at hf
      exact VV.lle (v_X8_dearest_94 t_a0 k36 hk36 t_a3 hf) (lle_s (lle_s (lle_s (lle_s (lle_s (lle_s (lle_s (lle_n lle_nil))))))))

theorem v_X8_dearest_36 {w : Wo} {K : Kn} {a0 : Nat} {x1 : Int32} {x2 : Int32} {q : (Int32 × Mem)} (t_a0 : K a0 = some (.inl 7)) : ∀ (n : Nat) (m : Mem) (a3 : Nat) (x4 : Int32) (x5 : Int32) (x6 : Int32), K a3 = some (.inl 6) → f_X8_dearest_36 K a0 x1 x2 n m a3 x4 x5 x6 = some q → VV w RX8 cX8_dearest 8 (some .int) rm_X8_dearest false (QM w K (some (.int q.1)) q.2 0 0) K 36 [some (.ref a0), none, some (.int x2), some (.ref a3), some (.int x4), some (.int x5), some (.int x6), none] [] 0 0 m := by
  intro n
  induction n with
  | zero => intro m a3 x4 x5 x6 t_a3 hf; cases hf
  | succ n ih => intro m a3 x4 x5 x6 t_a3 hf; exact v_X8_dearest_36B (a0 := a0) (x1 := x1) (x2 := x2) t_a0 (f_X8_dearest_36 K a0 x1 x2 n) ih t_a3 hf

set_option maxHeartbeats 4000000 in
theorem v_X8_dearest_0 {w : Wo} {K : Kn} {a0 : Nat} {x1 : Int32} {x2 : Int32} {q : (Int32 × Mem)} (t_a0 : K a0 = some (.inl 7)) {m : Mem} (hf : f_X8_dearest K a0 x1 x2 m = some q) : VV w RX8 cX8_dearest 8 (some .int) rm_X8_dearest false (QM w K (some (.int q.1)) q.2 0 0) K 0 [some (.ref a0), some (.int x1), some (.int x2), none, none, none, none, none] [] 0 0 m := by
  unfold f_X8_dearest at hf
  refine vv_aload_n 1 dX8_dearest_0 rfl rfl ?_
  refine vv_iload_n 2 dX8_dearest_1 rfl rfl ?_
  obtain ⟨q1, g_q1, hf⟩ := bind_s hf
  refine vv_callV 5 (st := []) (As := [.int x1]) (stk2 := [.int q1]) (cl2 := 0) (sl2 := 0) dX8_dearest_2 rfl lk_RX8_81 w_469 w_0 rfl t_a0 ⟨(Nat.le_of_ble_eq_true rfl), (Nat.le_of_ble_eq_true rfl)⟩ rfl rfl ⟨(Nat.le_of_ble_eq_true rfl), (Nat.le_of_ble_eq_true rfl)⟩ rfl (Nat.le_of_ble_eq_true rfl) rfl rfl rfl rfl (c_X8_isNone t_a0 g_q1) ?_
  refine vv_if_ne 17 8 dX8_dearest_5 rfl (by decide) (fun c2 => ?_) (fun c2 => ?_)
  · rw [if_pos c2] at hf
    refine vv_iload_n 9 dX8_dearest_8 rfl rfl ?_
    refine vv_if_lt 17 12 dX8_dearest_9 rfl (by decide) (fun c3 => ?_) (fun c3 => ?_)
    · rw [if_pos c3] at hf
      refine vv_bipush 19 (v := (-2)) dX8_dearest_17 rfl (by decide) ?_
      obtain rfl := Option.some.inj hf
      exact vv_iret dX8_dearest_19 rfl
    · rw [if_neg c3] at hf
      refine vv_iload_n 13 dX8_dearest_12 rfl rfl ?_
      refine vv_iconst 14 (v := 1) dX8_dearest_13 rfl (by decide) ?_
      refine vv_icmp_le 20 17 dX8_dearest_14 rfl (by decide) (fun c4 => ?_) (fun c4 => ?_)
      · rw [if_pos c4] at hf
        refine vv_aload_n 21 dX8_dearest_20 rfl rfl ?_
        obtain ⟨b5, g_b5, hf⟩ := bind_s hf
        have t_b5 := (ldA_spec g_b5).2
        refine gf_RX8_11 24 dX8_dearest_21 rfl t_a0 (ldA_spec g_b5).1 ?_
        refine vv_iload_n 25 dX8_dearest_24 rfl rfl ?_
        obtain ⟨b6, g_b6, hf⟩ := bind_s hf
        have t_b6 := (alO_spec g_b6).2
        refine vv_aald3 26 dX8_dearest_25 rfl t_b5 g_b6 ?_
        refine vv_astore_n 27 (L' := [some (.ref a0), some (.int x1), some (.int x2), some (.ref b6), none, none, none, none]) dX8_dearest_26 rfl (Nat.le_of_ble_eq_true rfl) rfl ?_
        refine vv_iconst 28 (v := 0) dX8_dearest_27 rfl (by decide) ?_
        refine vv_istore 30 (L' := [some (.ref a0), some (.int x1), some (.int x2), some (.ref b6), some (.int (0 : Int32)), none, none, none]) dX8_dearest_28 rfl (Nat.le_of_ble_eq_true rfl) rfl ?_
        refine vv_iconst 31 (v := (-1)) dX8_dearest_30 rfl (by decide) ?_
        refine vv_istore 33 (L' := [some (.ref a0), some (.int x1), some (.int x2), some (.ref b6), some (.int (0 : Int32)), some (.int (-1 : Int32)), none, none]) dX8_dearest_31 rfl (Nat.le_of_ble_eq_true rfl) rfl ?_
        refine vv_iconst 34 (v := 0) dX8_dearest_33 rfl (by decide) ?_
        refine vv_istore 36 (L' := [some (.ref a0), some (.int x1), some (.int x2), some (.ref b6), some (.int (0 : Int32)), some (.int (-1 : Int32)), some (.int (0 : Int32)), none]) dX8_dearest_34 rfl (Nat.le_of_ble_eq_true rfl) rfl ?_
        exact VV.lle (v_X8_dearest_36 t_a0 FU _ _ _ _ _ t_b6 hf) (lle_s (lle_n (lle_s (lle_s (lle_s (lle_s (lle_s (lle_s lle_nil))))))))
      · rw [if_neg c4] at hf
        refine vv_bipush 19 (v := (-2)) dX8_dearest_17 rfl (by decide) ?_
        obtain rfl := Option.some.inj hf
        exact vv_iret dX8_dearest_19 rfl
  · rw [if_neg c2] at hf
    refine vv_bipush 19 (v := (-2)) dX8_dearest_17 rfl (by decide) ?_
    obtain rfl := Option.some.inj hf
    exact vv_iret dX8_dearest_19 rfl

theorem c_X8_dearest {w : Wo} {K : Kn} {a0 : Nat} {x1 : Int32} {x2 : Int32} {q : (Int32 × Mem)} {m : Mem} (t_a0 : K a0 = some (.inl 7)) (hf : F_X8_dearest K m a0 x1 x2 = some q) : MM w K K yX8_dearest cX8_dearest 8 (some .int) rm_X8_dearest [.ref a0, .int x1, .int x2] m (some (.int q.1)) q.2 0 0 :=
  mm_of (ini := false) (n := 5) (plainFor_of_name (by decide)) rfl (fun h => by first | rfl | cases h) (Nat.le_of_ble_eq_true rfl) rfl (v_X8_dearest_0 t_a0 hf)

set_option maxHeartbeats 4000000 in
theorem v_X5_holds_28 {w : Wo} {K : Kn} {a0 : Nat} {x1 : Int32} {q : Int32} {m : Mem} (t_a0 : K a0 = some (.inl 4)) (hf : f_X5_holds_28 K m a0 x1 = some q) : VV w RX5 cX5_holds 3 (some .boolean) rm_X5_holds false (QM w K (some (.int q)) m 0 0) K 28 [none, none, none] [] 0 0 m := by
  unfold f_X5_holds_28 at hf
  refine vv_iconst 29 (v := 0) dX5_holds_28 rfl (by decide) ?_
  obtain rfl := Option.some.inj hf
  exact vv_zret dX5_holds_29 rfl (Or.inl rfl)

set_option maxHeartbeats 4000000 in
theorem v_X5_holds_0 {w : Wo} {K : Kn} {a0 : Nat} {x1 : Int32} {q : Int32} {m : Mem} (t_a0 : K a0 = some (.inl 4)) (hf : f_X5_holds K m a0 x1 = some q) : VV w RX5 cX5_holds 3 (some .boolean) rm_X5_holds false (QM w K (some (.int q)) m 0 0) K 0 [some (.ref a0), some (.int x1), none] [] 0 0 m := by
  unfold f_X5_holds at hf
  refine vv_aload_n 1 dX5_holds_0 rfl rfl ?_
  refine vv_iload_n 2 dX5_holds_1 rfl rfl ?_
  obtain ⟨q1, g_q1, hf⟩ := bind_s hf
  refine vv_callV 5 (st := []) (As := [.int x1]) (stk2 := [.int q1]) (cl2 := 0) (sl2 := 0) dX5_holds_2 rfl lk_RX5_27 w_575 w_576 rfl t_a0 ⟨(Nat.le_of_ble_eq_true rfl), (Nat.le_of_ble_eq_true rfl)⟩ rfl rfl ⟨(Nat.le_of_ble_eq_true rfl), (Nat.le_of_ble_eq_true rfl)⟩ rfl (Nat.le_of_ble_eq_true rfl) rfl rfl rfl rfl (c_X5_firstFrom t_a0 g_q1) ?_
  refine vv_istore_n 6 (L' := [some (.ref a0), some (.int x1), some (.int q1)]) dX5_holds_5 rfl (Nat.le_of_ble_eq_true rfl) rfl ?_
  refine vv_iload_n 7 dX5_holds_6 rfl rfl ?_
  refine vv_aload_n 8 dX5_holds_7 rfl rfl ?_
  refine gf_RX5_19 11 dX5_holds_8 rfl t_a0 ?_
  refine vv_icmp_ge 28 14 dX5_holds_11 rfl (by decide) (fun c2 => ?_) (fun c2 => ?_)
  · rw [if_pos c2] at hf
    exact VV.lle (v_X5_holds_28 t_a0 hf) (lle_n (lle_n (lle_n lle_nil)))
  · rw [if_neg c2] at hf
    refine vv_aload_n 15 dX5_holds_14 rfl rfl ?_
    obtain ⟨b3, g_b3, hf⟩ := bind_s hf
    have t_b3 := (ldA_spec g_b3).2
    refine gf_RX5_9 18 dX5_holds_15 rfl t_a0 (ldA_spec g_b3).1 ?_
    refine vv_iload_n 19 dX5_holds_18 rfl rfl ?_
    obtain ⟨r4, g_r4, hf⟩ := bind_s hf
    refine vv_iald 20 dX5_holds_19 rfl t_b3 g_r4 ?_
    refine vv_iload_n 21 dX5_holds_20 rfl rfl ?_
    refine vv_icmp_ne 28 24 dX5_holds_21 rfl (by decide) (fun c5 => ?_) (fun c5 => ?_)
    · rw [if_pos c5] at hf
      refine vv_iconst 25 (v := 1) dX5_holds_24 rfl (by decide) ?_
      refine vv_goto 29 dX5_holds_25 (by decide) ?_
      obtain rfl := Option.some.inj hf
      exact vv_zret dX5_holds_29 rfl (Or.inr rfl)
    · rw [if_neg c5] at hf
      exact VV.lle (v_X5_holds_28 t_a0 hf) (lle_n (lle_n (lle_n lle_nil)))

theorem c_X5_holds {w : Wo} {K : Kn} {a0 : Nat} {x1 : Int32} {q : Int32} {m : Mem} (t_a0 : K a0 = some (.inl 4)) (hf : F_X5_holds K m a0 x1 = some q) : MM w K K yX5_holds cX5_holds 3 (some .boolean) rm_X5_holds [.ref a0, .int x1] m (some (.int q)) m 0 0 :=
  mm_of (ini := false) (n := 1) (plainFor_of_name (by decide)) rfl (fun h => by first | rfl | cases h) (Nat.le_of_ble_eq_true rfl) rfl (v_X5_holds_0 t_a0 hf)

set_option maxHeartbeats 4000000 in
theorem v_X8_where_41B {w : Wo} {K : Kn} {a0 : Nat} {x1 : Int32} {x2 : Int32} {q : (Int32 × Mem)} (t_a0 : K a0 = some (.inl 7)) (k41 : Mem → Nat → Int32 → Option (Int32 × Mem)) (hk41 : ∀ (m : Mem) (a3 : Nat) (x4 : Int32), K a3 = some (.inl 6) → k41 m a3 x4 = some q → VV w RX8 cX8_where 5 (some .int) rm_X8_where false (QM w K (some (.int q.1)) q.2 0 0) K 41 [some (.ref a0), none, some (.int x2), some (.ref a3), some (.int x4)] [] 0 0 m) {m : Mem} {a3 : Nat} {x4 : Int32} (t_a3 : K a3 = some (.inl 6)) (hf : f_X8_where_41B K a0 x1 x2 k41 m a3 x4 = some q) : VV w RX8 cX8_where 5 (some .int) rm_X8_where false (QM w K (some (.int q.1)) q.2 0 0) K 41 [some (.ref a0), none, some (.int x2), some (.ref a3), some (.int x4)] [] 0 0 m := by
  unfold f_X8_where_41B at hf
  refine vv_iload 43 dX8_where_41 rfl rfl ?_
  refine vv_aload_n 44 dX8_where_43 rfl rfl ?_
  refine gf_RX8_169 47 dX8_where_44 rfl t_a3 ?_
  refine vv_icmp_ge 102 50 dX8_where_47 rfl (by decide) (fun c1 => ?_) (fun c1 => ?_)
  · rw [if_pos c1] at hf
    refine vv_iconst 103 (v := (-1)) dX8_where_102 rfl (by decide) ?_
    obtain rfl := Option.some.inj hf
    exact vv_iret dX8_where_103 rfl
  · rw [if_neg c1] at hf
    refine vv_aload_n 51 dX8_where_50 rfl rfl ?_
    obtain ⟨b2, g_b2, hf⟩ := bind_s hf
    have t_b2 := (ldA_spec g_b2).2
    refine gf_RX8_205 54 dX8_where_51 rfl t_a3 (ldA_spec g_b2).1 ?_
    refine vv_iload 56 dX8_where_54 rfl rfl ?_
    obtain ⟨b3, g_b3, hf⟩ := bind_s hf
    have t_b3 := (alO_spec g_b3).2
    refine vv_aald4 57 dX8_where_56 rfl t_b2 g_b3 ?_
    refine vv_iload_n 58 dX8_where_57 rfl rfl ?_
    refine vv_iload_n 59 dX8_where_58 rfl rfl ?_
    obtain ⟨q4, g_q4, hf⟩ := bind_s hf
    refine vv_callV 62 (st := []) (As := [.int x2, .int x2]) (stk2 := [.int q4]) (cl2 := 0) (sl2 := 0) dX8_where_59 rfl lk_RX8_246 w_702 w_703 rfl t_b3 ⟨(Nat.le_of_ble_eq_true rfl), (Nat.le_of_ble_eq_true rfl)⟩ rfl rfl ⟨(Nat.le_of_ble_eq_true rfl), (Nat.le_of_ble_eq_true rfl)⟩ rfl (Nat.le_of_ble_eq_true rfl) rfl rfl rfl rfl (c_X0_touches t_b3 g_q4) ?_
    refine vv_if_eq 96 65 dX8_where_62 rfl (by decide) (fun c5 => ?_) (fun c5 => ?_)
    · rw [if_pos c5] at hf
      obtain ⟨z6, e_z6, hf⟩ := bd_s hf
      refine vv_iincE (q := 99) (v := z6) (c := 1) (L' := [some (.ref a0), none, some (.int x2), some (.ref a3), some (.int z6)]) e_z6 dX8_where_96 rfl rfl (by decide) (Nat.le_of_ble_eq_true rfl) rfl ?_
      refine vv_goto 41 dX8_where_99 (by decide) ?_
      exact hk41 _ _ _ t_a3 hf
    · rw [if_neg c5] at hf
      refine vv_aload_n 66 dX8_where_65 rfl rfl ?_
      refine vv_iload_n 67 dX8_where_66 rfl rfl ?_
      refine vv_iload_n 68 dX8_where_67 rfl rfl ?_
      refine vv_aload_n 69 dX8_where_68 rfl rfl ?_
      obtain ⟨b7, g_b7, hf⟩ := bind_s hf
      have t_b7 := (ldO_spec g_b7).2
      refine gf_RX8_44 72 dX8_where_69 rfl t_a0 (ldO_spec g_b7).1 ?_
      refine vv_aload_n 73 dX8_where_72 rfl rfl ?_
      obtain ⟨b8, g_b8, hf⟩ := bind_s hf
      have t_b8 := (ldO_spec g_b8).2
      refine gf_RX8_25 76 dX8_where_73 rfl t_a0 (ldO_spec g_b8).1 ?_
      obtain ⟨q9, g_q9, hf⟩ := bind_s hf
      refine vv_callV 79 (st := []) (As := [.int x2, .int x2, .ref b7, .ref b8]) (stk2 := []) (cl2 := 0) (sl2 := 0) dX8_where_76 rfl lk_RX8_228 w_697 w_698 rfl t_a3 ⟨(Nat.le_of_ble_eq_true rfl), (Nat.le_of_ble_eq_true rfl)⟩ rfl rfl ⟨(Nat.le_of_ble_eq_true rfl), (Nat.le_of_ble_eq_true rfl)⟩ rfl (Nat.le_of_ble_eq_true rfl) rfl rfl rfl rfl (c_X7_gather t_a3 t_b7 t_b8 g_q9) ?_
      refine vv_aload_n 80 dX8_where_79 rfl rfl ?_
      obtain ⟨b10, g_b10, hf⟩ := bind_s hf
      have t_b10 := (ldO_spec g_b10).2
      refine gf_RX8_25 83 dX8_where_80 rfl t_a0 (ldO_spec g_b10).1 ?_
      refine gf_RX8_102 86 dX8_where_83 rfl t_b10 ?_
      refine vv_if_le 94 89 dX8_where_86 rfl (by decide) (fun c11 => ?_) (fun c11 => ?_)
      · rw [if_pos c11] at hf
        refine vv_iconst 95 (v := (-1)) dX8_where_94 rfl (by decide) ?_
        obtain rfl := Option.some.inj hf
        exact vv_iret dX8_where_95 rfl
      · rw [if_neg c11] at hf
        refine vv_iload 91 dX8_where_89 rfl rfl ?_
        refine vv_goto 95 dX8_where_91 (by decide) ?_
        obtain rfl := Option.some.inj hf
        exact vv_iret dX8_where_95 rfl

theorem v_X8_where_41 {w : Wo} {K : Kn} {a0 : Nat} {x1 : Int32} {x2 : Int32} {q : (Int32 × Mem)} (t_a0 : K a0 = some (.inl 7)) : ∀ (n : Nat) (m : Mem) (a3 : Nat) (x4 : Int32), K a3 = some (.inl 6) → f_X8_where_41 K a0 x1 x2 n m a3 x4 = some q → VV w RX8 cX8_where 5 (some .int) rm_X8_where false (QM w K (some (.int q.1)) q.2 0 0) K 41 [some (.ref a0), none, some (.int x2), some (.ref a3), some (.int x4)] [] 0 0 m := by
  intro n
  induction n with
  | zero => intro m a3 x4 t_a3 hf; cases hf
  | succ n ih => intro m a3 x4 t_a3 hf; exact v_X8_where_41B (a0 := a0) (x1 := x1) (x2 := x2) t_a0 (f_X8_where_41 K a0 x1 x2 n) ih t_a3 hf

set_option maxHeartbeats 4000000 in
theorem v_X8_where_0 {w : Wo} {K : Kn} {a0 : Nat} {x1 : Int32} {x2 : Int32} {q : (Int32 × Mem)} (t_a0 : K a0 = some (.inl 7)) {m : Mem} (hf : f_X8_where K a0 x1 x2 m = some q) : VV w RX8 cX8_where 5 (some .int) rm_X8_where false (QM w K (some (.int q.1)) q.2 0 0) K 0 [some (.ref a0), some (.int x1), some (.int x2), none, none] [] 0 0 m := by
  unfold f_X8_where at hf
  refine vv_aload_n 1 dX8_where_0 rfl rfl ?_
  refine vv_iload_n 2 dX8_where_1 rfl rfl ?_
  obtain ⟨q1, g_q1, hf⟩ := bind_s hf
  refine vv_callV 5 (st := []) (As := [.int x1]) (stk2 := [.int q1]) (cl2 := 0) (sl2 := 0) dX8_where_2 rfl lk_RX8_81 w_469 w_0 rfl t_a0 ⟨(Nat.le_of_ble_eq_true rfl), (Nat.le_of_ble_eq_true rfl)⟩ rfl rfl ⟨(Nat.le_of_ble_eq_true rfl), (Nat.le_of_ble_eq_true rfl)⟩ rfl (Nat.le_of_ble_eq_true rfl) rfl rfl rfl rfl (c_X8_isNone t_a0 g_q1) ?_
  refine vv_if_ne 15 8 dX8_where_5 rfl (by decide) (fun c2 => ?_) (fun c2 => ?_)
  · rw [if_pos c2] at hf
    refine vv_iload_n 9 dX8_where_8 rfl rfl ?_
    obtain ⟨q3, g_q3, hf⟩ := bind_s hf
    refine vv_callS 12 (st := []) (As := [.int x2]) (stk2 := [.int q3]) (cl2 := 0) (sl2 := 0) dX8_where_9 rfl lk_RX8_84 w_472 ⟨(Nat.le_of_ble_eq_true rfl), (Nat.le_of_ble_eq_true rfl)⟩ rfl rfl ⟨(Nat.le_of_ble_eq_true rfl), (Nat.le_of_ble_eq_true rfl)⟩ rfl (Nat.le_of_ble_eq_true rfl) rfl rfl rfl rfl (c_X8_isStamp g_q3) ?_
    refine vv_if_ne 18 15 dX8_where_12 rfl (by decide) (fun c4 => ?_) (fun c4 => ?_)
    · rw [if_pos c4] at hf
      refine vv_bipush 17 (v := (-2)) dX8_where_15 rfl (by decide) ?_
      obtain rfl := Option.some.inj hf
      exact vv_iret dX8_where_17 rfl
    · rw [if_neg c4] at hf
      refine vv_aload_n 19 dX8_where_18 rfl rfl ?_
      obtain ⟨b5, g_b5, hf⟩ := bind_s hf
      have t_b5 := (ldA_spec g_b5).2
      refine gf_RX8_11 22 dX8_where_19 rfl t_a0 (ldA_spec g_b5).1 ?_
      refine vv_iload_n 23 dX8_where_22 rfl rfl ?_
      obtain ⟨b6, g_b6, hf⟩ := bind_s hf
      have t_b6 := (alO_spec g_b6).2
      refine vv_aald3 24 dX8_where_23 rfl t_b5 g_b6 ?_
      refine vv_astore_n 25 (L' := [some (.ref a0), some (.int x1), some (.int x2), some (.ref b6), none]) dX8_where_24 rfl (Nat.le_of_ble_eq_true rfl) rfl ?_
      refine vv_aload_n 26 dX8_where_25 rfl rfl ?_
      obtain ⟨b7, g_b7, hf⟩ := bind_s hf
      have t_b7 := (ldO_spec g_b7).2
      refine gf_RX8_95 29 dX8_where_26 rfl t_b6 (ldO_spec g_b7).1 ?_
      refine vv_iload_n 30 dX8_where_29 rfl rfl ?_
      obtain ⟨q8, g_q8, hf⟩ := bind_s hf
      refine vv_callV 33 (st := []) (As := [.int x2]) (stk2 := [.int q8]) (cl2 := 0) (sl2 := 0) dX8_where_30 rfl lk_RX8_243 w_798 w_799 rfl t_b7 ⟨(Nat.le_of_ble_eq_true rfl), (Nat.le_of_ble_eq_true rfl)⟩ rfl rfl ⟨(Nat.le_of_ble_eq_true rfl), (Nat.le_of_ble_eq_true rfl)⟩ rfl (Nat.le_of_ble_eq_true rfl) rfl rfl rfl rfl (c_X5_holds t_b7 g_q8) ?_
      refine vv_if_eq 38 36 dX8_where_33 rfl (by decide) (fun c9 => ?_) (fun c9 => ?_)
      · rw [if_pos c9] at hf
        refine vv_iconst 39 (v := 0) dX8_where_38 rfl (by decide) ?_
        refine vv_istore 41 (L' := [some (.ref a0), some (.int x1), some (.int x2), some (.ref b6), some (.int (0 : Int32))]) dX8_where_39 rfl (Nat.le_of_ble_eq_true rfl) rfl ?_
        exact VV.lle (v_X8_where_41 t_a0 FU _ _ _ t_b6 hf) (lle_s (lle_n (lle_s (lle_s (lle_s lle_nil)))))
      · rw [if_neg c9] at hf
        refine vv_iconst 37 (v := (-1)) dX8_where_36 rfl (by decide) ?_
        obtain rfl := Option.some.inj hf
        exact vv_iret dX8_where_37 rfl
  · rw [if_neg c2] at hf
    refine vv_bipush 17 (v := (-2)) dX8_where_15 rfl (by decide) ?_
    obtain rfl := Option.some.inj hf
    exact vv_iret dX8_where_17 rfl

theorem c_X8_where {w : Wo} {K : Kn} {a0 : Nat} {x1 : Int32} {x2 : Int32} {q : (Int32 × Mem)} {m : Mem} (t_a0 : K a0 = some (.inl 7)) (hf : F_X8_where K m a0 x1 x2 = some q) : MM w K K yX8_where cX8_where 5 (some .int) rm_X8_where [.ref a0, .int x1, .int x2] m (some (.int q.1)) q.2 0 0 :=
  mm_of (ini := false) (n := 2) (plainFor_of_name (by decide)) rfl (fun h => by first | rfl | cases h) (Nat.le_of_ble_eq_true rfl) rfl (v_X8_where_0 t_a0 hf)

set_option maxHeartbeats 4000000 in
theorem v_X5_become_7B {w : Wo} {K : Kn} {a0 : Nat} {a1 : Nat} {q : Mem} (t_a0 : K a0 = some (.inl 4)) (t_a1 : K a1 = some (.inl 4)) (k7 : Mem → Int32 → Option Mem) (hk7 : ∀ (m : Mem) (x2 : Int32), k7 m x2 = some q → VV w RX5 cX5_become 3 none rm_X5_become false (QM w K none q 0 0) K 7 [some (.ref a0), some (.ref a1), some (.int x2)] [] 0 0 m) {m : Mem} {x2 : Int32} (hf : f_X5_become_7B K a0 a1 k7 m x2 = some q) : VV w RX5 cX5_become 3 none rm_X5_become false (QM w K none q 0 0) K 7 [some (.ref a0), some (.ref a1), some (.int x2)] [] 0 0 m := by
  unfold f_X5_become_7B at hf
  refine vv_iload_n 8 dX5_become_7 rfl rfl ?_
  refine vv_aload_n 9 dX5_become_8 rfl rfl ?_
  refine gf_RX5_19 12 dX5_become_9 rfl t_a1 ?_
  refine vv_icmp_ge 37 15 dX5_become_12 rfl (by decide) (fun c1 => ?_) (fun c1 => ?_)
  · rw [if_pos c1] at hf
    obtain rfl := Option.some.inj hf
    exact vv_vret dX5_become_37 rfl
  · rw [if_neg c1] at hf
    refine vv_aload_n 16 dX5_become_15 rfl rfl ?_
    refine vv_aload_n 17 dX5_become_16 rfl rfl ?_
    obtain ⟨b2, g_b2, hf⟩ := bind_s hf
    have t_b2 := (ldA_spec g_b2).2
    refine gf_RX5_9 20 dX5_become_17 rfl t_a1 (ldA_spec g_b2).1 ?_
    refine vv_iload_n 21 dX5_become_20 rfl rfl ?_
    obtain ⟨r3, g_r3, hf⟩ := bind_s hf
    refine vv_iald 22 dX5_become_21 rfl t_b2 g_r3 ?_
    refine vv_aload_n 23 dX5_become_22 rfl rfl ?_
    obtain ⟨b4, g_b4, hf⟩ := bind_s hf
    have t_b4 := (ldA_spec g_b4).2
    refine gf_RX5_15 26 dX5_become_23 rfl t_a1 (ldA_spec g_b4).1 ?_
    refine vv_iload_n 27 dX5_become_26 rfl rfl ?_
    obtain ⟨r5, g_r5, hf⟩ := bind_s hf
    refine vv_lald 28 dX5_become_27 rfl t_b4 g_r5 ?_
    obtain ⟨q6, g_q6, hf⟩ := bind_s hf
    refine vv_callV 31 (st := []) (As := [.int r3, .long r5]) (stk2 := []) (cl2 := 0) (sl2 := 0) dX5_become_28 rfl lk_RX5_23 w_712 w_713 rfl t_a0 ⟨(Nat.le_of_ble_eq_true rfl), (Nat.le_of_ble_eq_true rfl)⟩ rfl rfl ⟨(Nat.le_of_ble_eq_true rfl), (Nat.le_of_ble_eq_true rfl)⟩ rfl (Nat.le_of_ble_eq_true rfl) rfl rfl rfl rfl (c_X5_push t_a0 g_q6) ?_
    obtain ⟨z7, e_z7, hf⟩ := bd_s hf
    refine vv_iincE (q := 34) (v := z7) (c := 1) (L' := [some (.ref a0), some (.ref a1), some (.int z7)]) e_z7 dX5_become_31 rfl rfl (by decide) (Nat.le_of_ble_eq_true rfl) rfl ?_
    refine vv_goto 7 dX5_become_34 (by decide) ?_
    exact hk7 _ _ hf

theorem v_X5_become_7 {w : Wo} {K : Kn} {a0 : Nat} {a1 : Nat} {q : Mem} (t_a0 : K a0 = some (.inl 4)) (t_a1 : K a1 = some (.inl 4)) : ∀ (n : Nat) (m : Mem) (x2 : Int32), f_X5_become_7 K a0 a1 n m x2 = some q → VV w RX5 cX5_become 3 none rm_X5_become false (QM w K none q 0 0) K 7 [some (.ref a0), some (.ref a1), some (.int x2)] [] 0 0 m := by
  intro n
  induction n with
  | zero => intro m x2 hf; cases hf
  | succ n ih => intro m x2 hf; exact v_X5_become_7B (a0 := a0) (a1 := a1) t_a0 t_a1 (f_X5_become_7 K a0 a1 n) ih hf

set_option maxHeartbeats 4000000 in
theorem v_X5_become_0 {w : Wo} {K : Kn} {a0 : Nat} {a1 : Nat} {q : Mem} (t_a0 : K a0 = some (.inl 4)) (t_a1 : K a1 = some (.inl 4)) {m : Mem} (hf : f_X5_become K a0 a1 m = some q) : VV w RX5 cX5_become 3 none rm_X5_become false (QM w K none q 0 0) K 0 [some (.ref a0), some (.ref a1), none] [] 0 0 m := by
  unfold f_X5_become at hf
  refine vv_aload_n 1 dX5_become_0 rfl rfl ?_
  refine vv_iconst 2 (v := 0) dX5_become_1 rfl (by decide) ?_
  obtain ⟨m1, e_m1, hf⟩ := bd_s hf
  refine pf_RX5_19 5 dX5_become_2 rfl t_a0 e_m1 ?_
  refine vv_iconst 6 (v := 0) dX5_become_5 rfl (by decide) ?_
  refine vv_istore_n 7 (L' := [some (.ref a0), some (.ref a1), some (.int (0 : Int32))]) dX5_become_6 rfl (Nat.le_of_ble_eq_true rfl) rfl ?_
  exact v_X5_become_7 t_a0 t_a1 FU _ _ hf

theorem c_X5_become {w : Wo} {K : Kn} {a0 : Nat} {a1 : Nat} {q : Mem} {m : Mem} (t_a0 : K a0 = some (.inl 4)) (t_a1 : K a1 = some (.inl 4)) (hf : F_X5_become K m a0 a1 = some q) : MM w K K yX5_become cX5_become 3 none rm_X5_become [.ref a0, .ref a1] m none q 0 0 :=
  mm_of (ini := false) (n := 1) (plainFor_of_name (by decide)) rfl (fun h => by first | rfl | cases h) (Nat.le_of_ble_eq_true rfl) rfl (v_X5_become_0 t_a0 t_a1 hf)

set_option maxHeartbeats 4000000 in
theorem v_X1_become_0 {w : Wo} {K : Kn} {a0 : Nat} {a1 : Nat} {q : Mem} (t_a0 : K a0 = some (.inl 1)) (t_a1 : K a1 = some (.inl 1)) {m : Mem} (hf : f_X1_become K a0 a1 m = some q) : VV w RX1 cX1_become 2 none rm_X1_become false (QM w K none q 0 0) K 0 [some (.ref a0), some (.ref a1)] [] 0 0 m := by
  unfold f_X1_become at hf
  refine vv_aload_n 1 dX1_become_0 rfl rfl ?_
  refine vv_aload_n 2 dX1_become_1 rfl rfl ?_
  refine gf_RX1_15 5 dX1_become_2 rfl t_a1 ?_
  obtain ⟨m1, e_m1, hf⟩ := bd_s hf
  refine pf_RX1_15 8 dX1_become_5 rfl t_a0 e_m1 ?_
  refine vv_aload_n 9 dX1_become_8 rfl rfl ?_
  refine vv_aload_n 10 dX1_become_9 rfl rfl ?_
  refine gf_RX1_22 13 dX1_become_10 rfl t_a1 ?_
  obtain ⟨m2, e_m2, hf⟩ := bd_s hf
  refine pf_RX1_22 16 dX1_become_13 rfl t_a0 e_m2 ?_
  refine vv_aload_n 17 dX1_become_16 rfl rfl ?_
  refine vv_aload_n 18 dX1_become_17 rfl rfl ?_
  refine gf_RX1_18 21 dX1_become_18 rfl t_a1 ?_
  obtain ⟨m3, e_m3, hf⟩ := bd_s hf
  refine pf_RX1_18 24 dX1_become_21 rfl t_a0 e_m3 ?_
  refine vv_aload_n 25 dX1_become_24 rfl rfl ?_
  refine vv_aload_n 26 dX1_become_25 rfl rfl ?_
  refine gf_RX1_9 29 dX1_become_26 rfl t_a1 ?_
  obtain ⟨m4, e_m4, hf⟩ := bd_s hf
  refine pf_RX1_9 32 dX1_become_29 rfl t_a0 e_m4 ?_
  refine vv_aload_n 33 dX1_become_32 rfl rfl ?_
  refine vv_aload_n 34 dX1_become_33 rfl rfl ?_
  refine gf_RX1_25 37 dX1_become_34 rfl t_a1 ?_
  obtain ⟨m5, e_m5, hf⟩ := bd_s hf
  refine pf_RX1_25 40 dX1_become_37 rfl t_a0 e_m5 ?_
  obtain rfl := Option.some.inj hf
  exact vv_vret dX1_become_40 rfl

theorem c_X1_become {w : Wo} {K : Kn} {a0 : Nat} {a1 : Nat} {q : Mem} {m : Mem} (t_a0 : K a0 = some (.inl 1)) (t_a1 : K a1 = some (.inl 1)) (hf : F_X1_become K m a0 a1 = some q) : MM w K K yX1_become cX1_become 2 none rm_X1_become [.ref a0, .ref a1] m none q 0 0 :=
  mm_of (ini := false) (n := 0) (plainFor_of_name (by decide)) rfl (fun h => by first | rfl | cases h) (Nat.le_of_ble_eq_true rfl) rfl (v_X1_become_0 t_a0 t_a1 hf)

set_option maxHeartbeats 4000000 in
theorem v_X0_become_0 {w : Wo} {K : Kn} {a0 : Nat} {a1 : Nat} {q : Mem} (t_a0 : K a0 = some (.inl 0)) (t_a1 : K a1 = some (.inl 0)) {m : Mem} (hf : f_X0_become K a0 a1 m = some q) : VV w RX0 cX0_become 2 none rm_X0_become false (QM w K none q 0 0) K 0 [some (.ref a0), some (.ref a1)] [] 0 0 m := by
  unfold f_X0_become at hf
  refine vv_aload_n 1 dX0_become_0 rfl rfl ?_
  obtain ⟨b1, g_b1, hf⟩ := bind_s hf
  have t_b1 := (ldA_spec g_b1).2
  refine gf_RX0_9 4 dX0_become_1 rfl t_a1 (ldA_spec g_b1).1 ?_
  refine vv_iconst 5 (v := 0) dX0_become_4 rfl (by decide) ?_
  refine vv_aload_n 6 dX0_become_5 rfl rfl ?_
  obtain ⟨b2, g_b2, hf⟩ := bind_s hf
  have t_b2 := (ldA_spec g_b2).2
  refine gf_RX0_9 9 dX0_become_6 rfl t_a0 (ldA_spec g_b2).1 ?_
  refine vv_iconst 10 (v := 0) dX0_become_9 rfl (by decide) ?_
  refine vv_aload_n 11 dX0_become_10 rfl rfl ?_
  refine gf_RX0_23 14 dX0_become_11 rfl t_a1 ?_
  obtain ⟨m3, g_m3, hf⟩ := bind_s hf
  refine vv_copy 17 dX0_become_14 rfl w_673 w_675 w_674 w_77 t_b1 t_b2 (Nat.le_of_ble_eq_true rfl) (Nat.le_of_ble_eq_true rfl) g_m3 ?_
  refine vv_aload_n 18 dX0_become_17 rfl rfl ?_
  refine vv_aload_n 19 dX0_become_18 rfl rfl ?_
  refine gf_RX0_23 22 dX0_become_19 rfl t_a1 ?_
  obtain ⟨m4, e_m4, hf⟩ := bd_s hf
  refine pf_RX0_23 25 dX0_become_22 rfl t_a0 e_m4 ?_
  refine vv_aload_n 26 dX0_become_25 rfl rfl ?_
  refine vv_aload_n 27 dX0_become_26 rfl rfl ?_
  refine gf_RX0_30 30 dX0_become_27 rfl t_a1 ?_
  obtain ⟨m5, e_m5, hf⟩ := bd_s hf
  refine pf_RX0_30 33 dX0_become_30 rfl t_a0 e_m5 ?_
  refine vv_aload_n 34 dX0_become_33 rfl rfl ?_
  refine vv_aload_n 35 dX0_become_34 rfl rfl ?_
  refine gf_RX0_33 38 dX0_become_35 rfl t_a1 ?_
  obtain ⟨m6, e_m6, hf⟩ := bd_s hf
  refine pf_RX0_33 41 dX0_become_38 rfl t_a0 e_m6 ?_
  refine vv_aload_n 42 dX0_become_41 rfl rfl ?_
  refine vv_aload_n 43 dX0_become_42 rfl rfl ?_
  refine gf_RX0_36 46 dX0_become_43 rfl t_a1 ?_
  obtain ⟨m7, e_m7, hf⟩ := bd_s hf
  refine pf_RX0_36 49 dX0_become_46 rfl t_a0 e_m7 ?_
  refine vv_aload_n 50 dX0_become_49 rfl rfl ?_
  refine vv_aload_n 51 dX0_become_50 rfl rfl ?_
  refine gf_RX0_39 54 dX0_become_51 rfl t_a1 ?_
  obtain ⟨m8, e_m8, hf⟩ := bd_s hf
  refine pf_RX0_39 57 dX0_become_54 rfl t_a0 e_m8 ?_
  refine vv_aload_n 58 dX0_become_57 rfl rfl ?_
  refine vv_aload_n 59 dX0_become_58 rfl rfl ?_
  refine gf_RX0_42 62 dX0_become_59 rfl t_a1 ?_
  obtain ⟨h9, hf⟩ := gd_s hf
  obtain ⟨m10, e_m10, hf⟩ := bd_s hf
  refine pf_RX0_42 65 dX0_become_62 rfl t_a0 h9 e_m10 ?_
  refine vv_aload_n 66 dX0_become_65 rfl rfl ?_
  refine vv_aload_n 67 dX0_become_66 rfl rfl ?_
  refine gf_RX0_46 70 dX0_become_67 rfl t_a1 ?_
  obtain ⟨m11, e_m11, hf⟩ := bd_s hf
  refine pf_RX0_46 73 dX0_become_70 rfl t_a0 e_m11 ?_
  refine vv_aload_n 74 dX0_become_73 rfl rfl ?_
  refine vv_aload_n 75 dX0_become_74 rfl rfl ?_
  refine gf_RX0_15 78 dX0_become_75 rfl t_a1 ?_
  obtain ⟨m12, e_m12, hf⟩ := bd_s hf
  refine pf_RX0_15 81 dX0_become_78 rfl t_a0 e_m12 ?_
  obtain rfl := Option.some.inj hf
  exact vv_vret dX0_become_81 rfl

theorem c_X0_become {w : Wo} {K : Kn} {a0 : Nat} {a1 : Nat} {q : Mem} {m : Mem} (t_a0 : K a0 = some (.inl 0)) (t_a1 : K a1 = some (.inl 0)) (hf : F_X0_become K m a0 a1 = some q) : MM w K K yX0_become cX0_become 2 none rm_X0_become [.ref a0, .ref a1] m none q 0 0 :=
  mm_of (ini := false) (n := 0) (plainFor_of_name (by decide)) rfl (fun h => by first | rfl | cases h) (Nat.le_of_ble_eq_true rfl) rfl (v_X0_become_0 t_a0 t_a1 hf)

set_option maxHeartbeats 4000000 in
theorem v_X7_become_56B {w : Wo} {K : Kn} {a0 : Nat} {a1 : Nat} {q : Mem} (t_a0 : K a0 = some (.inl 6)) (t_a1 : K a1 = some (.inl 6)) (k56 : Mem → Int32 → Option Mem) (hk56 : ∀ (m : Mem) (x2 : Int32), k56 m x2 = some q → VV w RX7 cX7_become 3 none rm_X7_become false (QM w K none q 0 0) K 56 [some (.ref a0), some (.ref a1), some (.int x2)] [] 0 0 m) {m : Mem} {x2 : Int32} (hf : f_X7_become_56B K a0 a1 k56 m x2 = some q) : VV w RX7 cX7_become 3 none rm_X7_become false (QM w K none q 0 0) K 56 [some (.ref a0), some (.ref a1), some (.int x2)] [] 0 0 m := by
  unfold f_X7_become_56B at hf
  refine vv_iload_n 57 dX7_become_56 rfl rfl ?_
  refine vv_aload_n 58 dX7_become_57 rfl rfl ?_
  refine gf_RX7_45 61 dX7_become_58 rfl t_a0 ?_
  refine vv_icmp_ge 85 64 dX7_become_61 rfl (by decide) (fun c1 => ?_) (fun c1 => ?_)
  · rw [if_pos c1] at hf
    obtain rfl := Option.some.inj hf
    exact vv_vret dX7_become_85 rfl
  · rw [if_neg c1] at hf
    refine vv_aload_n 65 dX7_become_64 rfl rfl ?_
    obtain ⟨b2, g_b2, hf⟩ := bind_s hf
    have t_b2 := (ldA_spec g_b2).2
    refine gf_RX7_11 68 dX7_become_65 rfl t_a0 (ldA_spec g_b2).1 ?_
    refine vv_iload_n 69 dX7_become_68 rfl rfl ?_
    obtain ⟨b3, g_b3, hf⟩ := bind_s hf
    have t_b3 := (alO_spec g_b3).2
    refine vv_aald4 70 dX7_become_69 rfl t_b2 g_b3 ?_
    refine vv_aload_n 71 dX7_become_70 rfl rfl ?_
    obtain ⟨b4, g_b4, hf⟩ := bind_s hf
    have t_b4 := (ldA_spec g_b4).2
    refine gf_RX7_11 74 dX7_become_71 rfl t_a1 (ldA_spec g_b4).1 ?_
    refine vv_iload_n 75 dX7_become_74 rfl rfl ?_
    obtain ⟨b5, g_b5, hf⟩ := bind_s hf
    have t_b5 := (alO_spec g_b5).2
    refine vv_aald4 76 dX7_become_75 rfl t_b4 g_b5 ?_
    obtain ⟨q6, g_q6, hf⟩ := bind_s hf
    refine vv_callV 79 (st := []) (As := [.ref b5]) (stk2 := []) (cl2 := 0) (sl2 := 0) dX7_become_76 rfl lk_RX7_56 w_670 w_671 rfl t_b3 ⟨(Nat.le_of_ble_eq_true rfl), (Nat.le_of_ble_eq_true rfl)⟩ rfl rfl ⟨(Nat.le_of_ble_eq_true rfl), (Nat.le_of_ble_eq_true rfl)⟩ rfl (Nat.le_of_ble_eq_true rfl) rfl rfl rfl rfl (c_X0_become t_b3 t_b5 g_q6) ?_
    obtain ⟨z7, e_z7, hf⟩ := bd_s hf
    refine vv_iincE (q := 82) (v := z7) (c := 1) (L' := [some (.ref a0), some (.ref a1), some (.int z7)]) e_z7 dX7_become_79 rfl rfl (by decide) (Nat.le_of_ble_eq_true rfl) rfl ?_
    refine vv_goto 56 dX7_become_82 (by decide) ?_
    exact hk56 _ _ hf

theorem v_X7_become_56 {w : Wo} {K : Kn} {a0 : Nat} {a1 : Nat} {q : Mem} (t_a0 : K a0 = some (.inl 6)) (t_a1 : K a1 = some (.inl 6)) : ∀ (n : Nat) (m : Mem) (x2 : Int32), f_X7_become_56 K a0 a1 n m x2 = some q → VV w RX7 cX7_become 3 none rm_X7_become false (QM w K none q 0 0) K 56 [some (.ref a0), some (.ref a1), some (.int x2)] [] 0 0 m := by
  intro n
  induction n with
  | zero => intro m x2 hf; cases hf
  | succ n ih => intro m x2 hf; exact v_X7_become_56B (a0 := a0) (a1 := a1) t_a0 t_a1 (f_X7_become_56 K a0 a1 n) ih hf

set_option maxHeartbeats 4000000 in
theorem v_X7_become_0 {w : Wo} {K : Kn} {a0 : Nat} {a1 : Nat} {q : Mem} (t_a0 : K a0 = some (.inl 6)) (t_a1 : K a1 = some (.inl 6)) {m : Mem} (hf : f_X7_become K a0 a1 m = some q) : VV w RX7 cX7_become 3 none rm_X7_become false (QM w K none q 0 0) K 0 [some (.ref a0), some (.ref a1), none] [] 0 0 m := by
  unfold f_X7_become at hf
  refine vv_aload_n 1 dX7_become_0 rfl rfl ?_
  refine vv_aload_n 2 dX7_become_1 rfl rfl ?_
  refine gf_RX7_38 5 dX7_become_2 rfl t_a1 ?_
  obtain ⟨h1, hf⟩ := gd_s hf
  obtain ⟨m2, e_m2, hf⟩ := bd_s hf
  refine pf_RX7_38 8 dX7_become_5 rfl t_a0 h1 e_m2 ?_
  refine vv_aload_n 9 dX7_become_8 rfl rfl ?_
  refine vv_aload_n 10 dX7_become_9 rfl rfl ?_
  refine gf_RX7_42 13 dX7_become_10 rfl t_a1 ?_
  obtain ⟨m3, e_m3, hf⟩ := bd_s hf
  refine pf_RX7_42 16 dX7_become_13 rfl t_a0 e_m3 ?_
  refine vv_aload_n 17 dX7_become_16 rfl rfl ?_
  refine vv_aload_n 18 dX7_become_17 rfl rfl ?_
  refine gf_RX7_45 21 dX7_become_18 rfl t_a1 ?_
  obtain ⟨m4, e_m4, hf⟩ := bd_s hf
  refine pf_RX7_45 24 dX7_become_21 rfl t_a0 e_m4 ?_
  refine vv_aload_n 25 dX7_become_24 rfl rfl ?_
  refine vv_aload_n 26 dX7_become_25 rfl rfl ?_
  refine gf_RX7_33 29 dX7_become_26 rfl t_a1 ?_
  obtain ⟨m5, e_m5, hf⟩ := bd_s hf
  refine pf_RX7_33 32 dX7_become_29 rfl t_a0 e_m5 ?_
  refine vv_aload_n 33 dX7_become_32 rfl rfl ?_
  obtain ⟨b6, g_b6, hf⟩ := bind_s hf
  have t_b6 := (ldO_spec g_b6).2
  refine gf_RX7_22 36 dX7_become_33 rfl t_a0 (ldO_spec g_b6).1 ?_
  refine vv_aload_n 37 dX7_become_36 rfl rfl ?_
  obtain ⟨b7, g_b7, hf⟩ := bind_s hf
  have t_b7 := (ldO_spec g_b7).2
  refine gf_RX7_22 40 dX7_become_37 rfl t_a1 (ldO_spec g_b7).1 ?_
  obtain ⟨q8, g_q8, hf⟩ := bind_s hf
  refine vv_callV 43 (st := []) (As := [.ref b7]) (stk2 := []) (cl2 := 0) (sl2 := 0) dX7_become_40 rfl lk_RX7_49 w_999 w_1000 rfl t_b6 ⟨(Nat.le_of_ble_eq_true rfl), (Nat.le_of_ble_eq_true rfl)⟩ rfl rfl ⟨(Nat.le_of_ble_eq_true rfl), (Nat.le_of_ble_eq_true rfl)⟩ rfl (Nat.le_of_ble_eq_true rfl) rfl rfl rfl rfl (c_X5_become t_b6 t_b7 g_q8) ?_
  refine vv_aload_n 44 dX7_become_43 rfl rfl ?_
  obtain ⟨b9, g_b9, hf⟩ := bind_s hf
  have t_b9 := (ldO_spec g_b9).2
  refine gf_RX7_29 47 dX7_become_44 rfl t_a0 (ldO_spec g_b9).1 ?_
  refine vv_aload_n 48 dX7_become_47 rfl rfl ?_
  obtain ⟨b10, g_b10, hf⟩ := bind_s hf
  have t_b10 := (ldO_spec g_b10).2
  refine gf_RX7_29 51 dX7_become_48 rfl t_a1 (ldO_spec g_b10).1 ?_
  obtain ⟨q11, g_q11, hf⟩ := bind_s hf
  refine vv_callV 54 (st := []) (As := [.ref b10]) (stk2 := []) (cl2 := 0) (sl2 := 0) dX7_become_51 rfl lk_RX7_53 w_1004 w_1005 rfl t_b9 ⟨(Nat.le_of_ble_eq_true rfl), (Nat.le_of_ble_eq_true rfl)⟩ rfl rfl ⟨(Nat.le_of_ble_eq_true rfl), (Nat.le_of_ble_eq_true rfl)⟩ rfl (Nat.le_of_ble_eq_true rfl) rfl rfl rfl rfl (c_X1_become t_b9 t_b10 g_q11) ?_
  refine vv_iconst 55 (v := 0) dX7_become_54 rfl (by decide) ?_
  refine vv_istore_n 56 (L' := [some (.ref a0), some (.ref a1), some (.int (0 : Int32))]) dX7_become_55 rfl (Nat.le_of_ble_eq_true rfl) rfl ?_
  exact v_X7_become_56 t_a0 t_a1 FU _ _ hf

theorem c_X7_become {w : Wo} {K : Kn} {a0 : Nat} {a1 : Nat} {q : Mem} {m : Mem} (t_a0 : K a0 = some (.inl 6)) (t_a1 : K a1 = some (.inl 6)) (hf : F_X7_become K m a0 a1 = some q) : MM w K K yX7_become cX7_become 3 none rm_X7_become [.ref a0, .ref a1] m none q 0 0 :=
  mm_of (ini := false) (n := 1) (plainFor_of_name (by decide)) rfl (fun h => by first | rfl | cases h) (Nat.le_of_ble_eq_true rfl) rfl (v_X7_become_0 t_a0 t_a1 hf)

set_option maxHeartbeats 4000000 in
theorem v_X8_copy_0 {w : Wo} {K : Kn} {a0 : Nat} {x1 : Int32} {x2 : Int32} {q : (Int32 × Mem)} (t_a0 : K a0 = some (.inl 7)) {m : Mem} (hf : f_X8_copy K a0 x1 x2 m = some q) : VV w RX8 cX8_copy 3 (some .int) rm_X8_copy false (QM w K (some (.int q.1)) q.2 0 0) K 0 [some (.ref a0), some (.int x1), some (.int x2)] [] 0 0 m := by
  unfold f_X8_copy at hf
  refine vv_aload_n 1 dX8_copy_0 rfl rfl ?_
  refine vv_iload_n 2 dX8_copy_1 rfl rfl ?_
  obtain ⟨q1, g_q1, hf⟩ := bind_s hf
  refine vv_callV 5 (st := []) (As := [.int x1]) (stk2 := [.int q1]) (cl2 := 0) (sl2 := 0) dX8_copy_2 rfl lk_RX8_81 w_469 w_0 rfl t_a0 ⟨(Nat.le_of_ble_eq_true rfl), (Nat.le_of_ble_eq_true rfl)⟩ rfl rfl ⟨(Nat.le_of_ble_eq_true rfl), (Nat.le_of_ble_eq_true rfl)⟩ rfl (Nat.le_of_ble_eq_true rfl) rfl rfl rfl rfl (c_X8_isNone t_a0 g_q1) ?_
  refine vv_if_ne 15 8 dX8_copy_5 rfl (by decide) (fun c2 => ?_) (fun c2 => ?_)
  · rw [if_pos c2] at hf
    refine vv_iload_n 9 dX8_copy_8 rfl rfl ?_
    obtain ⟨q3, g_q3, hf⟩ := bind_s hf
    refine vv_callS 12 (st := []) (As := [.int x2]) (stk2 := [.int q3]) (cl2 := 0) (sl2 := 0) dX8_copy_9 rfl lk_RX8_71 w_454 ⟨(Nat.le_of_ble_eq_true rfl), (Nat.le_of_ble_eq_true rfl)⟩ rfl rfl ⟨(Nat.le_of_ble_eq_true rfl), (Nat.le_of_ble_eq_true rfl)⟩ rfl (Nat.le_of_ble_eq_true rfl) rfl rfl rfl rfl (c_X8_isSlot g_q3) ?_
    refine vv_if_ne 18 15 dX8_copy_12 rfl (by decide) (fun c4 => ?_) (fun c4 => ?_)
    · rw [if_pos c4] at hf
      refine vv_bipush 17 (v := (-2)) dX8_copy_15 rfl (by decide) ?_
      obtain rfl := Option.some.inj hf
      exact vv_iret dX8_copy_17 rfl
    · rw [if_neg c4] at hf
      refine vv_iload_n 19 dX8_copy_18 rfl rfl ?_
      refine vv_iload_n 20 dX8_copy_19 rfl rfl ?_
      refine vv_icmp_eq 38 23 dX8_copy_20 rfl (by decide) (fun c5 => ?_) (fun c5 => ?_)
      · rw [if_pos c5] at hf
        refine vv_iconst 39 (v := 0) dX8_copy_38 rfl (by decide) ?_
        obtain rfl := Option.some.inj hf
        exact vv_iret dX8_copy_39 rfl
      · rw [if_neg c5] at hf
        refine vv_aload_n 24 dX8_copy_23 rfl rfl ?_
        obtain ⟨b6, g_b6, hf⟩ := bind_s hf
        have t_b6 := (ldA_spec g_b6).2
        refine gf_RX8_11 27 dX8_copy_24 rfl t_a0 (ldA_spec g_b6).1 ?_
        refine vv_iload_n 28 dX8_copy_27 rfl rfl ?_
        obtain ⟨b7, g_b7, hf⟩ := bind_s hf
        have t_b7 := (alO_spec g_b7).2
        refine vv_aald3 29 dX8_copy_28 rfl t_b6 g_b7 ?_
        refine vv_aload_n 30 dX8_copy_29 rfl rfl ?_
        obtain ⟨b8, g_b8, hf⟩ := bind_s hf
        have t_b8 := (ldA_spec g_b8).2
        refine gf_RX8_11 33 dX8_copy_30 rfl t_a0 (ldA_spec g_b8).1 ?_
        refine vv_iload_n 34 dX8_copy_33 rfl rfl ?_
        obtain ⟨b9, g_b9, hf⟩ := bind_s hf
        have t_b9 := (alO_spec g_b9).2
        refine vv_aald3 35 dX8_copy_34 rfl t_b8 g_b9 ?_
        obtain ⟨q10, g_q10, hf⟩ := bind_s hf
        refine vv_callV 38 (st := []) (As := [.ref b9]) (stk2 := []) (cl2 := 0) (sl2 := 0) dX8_copy_35 rfl lk_RX8_329 w_995 w_996 rfl t_b7 ⟨(Nat.le_of_ble_eq_true rfl), (Nat.le_of_ble_eq_true rfl)⟩ rfl rfl ⟨(Nat.le_of_ble_eq_true rfl), (Nat.le_of_ble_eq_true rfl)⟩ rfl (Nat.le_of_ble_eq_true rfl) rfl rfl rfl rfl (c_X7_become t_b7 t_b9 g_q10) ?_
        refine vv_iconst 39 (v := 0) dX8_copy_38 rfl (by decide) ?_
        obtain rfl := Option.some.inj hf
        exact vv_iret dX8_copy_39 rfl
  · rw [if_neg c2] at hf
    refine vv_bipush 17 (v := (-2)) dX8_copy_15 rfl (by decide) ?_
    obtain rfl := Option.some.inj hf
    exact vv_iret dX8_copy_17 rfl

theorem c_X8_copy {w : Wo} {K : Kn} {a0 : Nat} {x1 : Int32} {x2 : Int32} {q : (Int32 × Mem)} {m : Mem} (t_a0 : K a0 = some (.inl 7)) (hf : F_X8_copy K m a0 x1 x2 = some q) : MM w K K yX8_copy cX8_copy 3 (some .int) rm_X8_copy [.ref a0, .int x1, .int x2] m (some (.int q.1)) q.2 0 0 :=
  mm_of (ini := false) (n := 0) (plainFor_of_name (by decide)) rfl (fun h => by first | rfl | cases h) (Nat.le_of_ble_eq_true rfl) rfl (v_X8_copy_0 t_a0 hf)

set_option maxHeartbeats 4000000 in
theorem v_J9_floorMod_7cf53_18 {w : Wo} {K : Kn} {x0 : Int32} {x1 : Int32} {q : Int32} {m : Mem} {x2 : Int32} (hf : f_J9_floorMod_7cf53_18 x0 x1 x2 = some q) : VV w RJ9 cJ9_floorMod_7cf53 3 (some .int) rm_J9_floorMod_7cf53 false (QM w K (some (.int q)) m 0 0) K 18 [none, none, some (.int x2)] [] 0 0 m := by
  unfold f_J9_floorMod_7cf53_18 at hf
  refine vv_iload_n 19 dJ9_floorMod_7cf53_18 rfl rfl ?_
  obtain rfl := Option.some.inj hf
  exact vv_iret dJ9_floorMod_7cf53_19 rfl

set_option maxHeartbeats 4000000 in
theorem v_J9_floorMod_7cf53_0 {w : Wo} {K : Kn} {x0 : Int32} {x1 : Int32} {q : Int32} {m : Mem} (hf : f_J9_floorMod_7cf53 x0 x1 = some q) : VV w RJ9 cJ9_floorMod_7cf53 3 (some .int) rm_J9_floorMod_7cf53 false (QM w K (some (.int q)) m 0 0) K 0 [some (.int x0), some (.int x1), none] [] 0 0 m := by
  unfold f_J9_floorMod_7cf53 at hf
  refine vv_iload_n 1 dJ9_floorMod_7cf53_0 rfl rfl ?_
  refine vv_iload_n 2 dJ9_floorMod_7cf53_1 rfl rfl ?_
  obtain ⟨h1, hf⟩ := gd_s hf
  refine vv_irem 3 dJ9_floorMod_7cf53_2 rfl h1 ?_
  obtain ⟨z2, e_z2, hf⟩ := bd_s hf
  refine vv_istore_nE (q := 4) (v := z2) (L' := [some (.int x0), some (.int x1), some (.int z2)]) e_z2 dJ9_floorMod_7cf53_3 rfl (Nat.le_of_ble_eq_true rfl) rfl ?_
  refine vv_iload_n 5 dJ9_floorMod_7cf53_4 rfl rfl ?_
  refine vv_iload_n 6 dJ9_floorMod_7cf53_5 rfl rfl ?_
  refine vv_ixor 7 dJ9_floorMod_7cf53_6 rfl ?_
  refine vv_if_ge 18 10 dJ9_floorMod_7cf53_7 rfl (by decide) (fun c3 => ?_) (fun c3 => ?_)
  · rw [if_pos c3] at hf
    exact VV.lle (v_J9_floorMod_7cf53_18 hf) (lle_n (lle_n (lle_s lle_nil)))
  · rw [if_neg c3] at hf
    refine vv_iload_n 11 dJ9_floorMod_7cf53_10 rfl rfl ?_
    refine vv_if_eq 18 14 dJ9_floorMod_7cf53_11 rfl (by decide) (fun c4 => ?_) (fun c4 => ?_)
    · rw [if_pos c4] at hf
      exact VV.lle (v_J9_floorMod_7cf53_18 hf) (lle_n (lle_n (lle_s lle_nil)))
    · rw [if_neg c4] at hf
      refine vv_iload_n 15 dJ9_floorMod_7cf53_14 rfl rfl ?_
      refine vv_iload_n 16 dJ9_floorMod_7cf53_15 rfl rfl ?_
      refine vv_iadd 17 dJ9_floorMod_7cf53_16 rfl ?_
      obtain rfl := Option.some.inj hf
      exact vv_iret dJ9_floorMod_7cf53_17 rfl

theorem c_J9_floorMod_7cf53 {w : Wo} {K : Kn} {x0 : Int32} {x1 : Int32} {q : Int32} {m : Mem} (hf : F_J9_floorMod_7cf53 x0 x1 = some q) : MM w K K yJ9_floorMod_7cf53 cJ9_floorMod_7cf53 3 (some .int) rm_J9_floorMod_7cf53 [.int x0, .int x1] m (some (.int q)) m 0 0 :=
  mm_of (ini := false) (n := 1) (by decide +kernel) rfl (fun h => by first | rfl | cases h) (Nat.le_of_ble_eq_true rfl) rfl (v_J9_floorMod_7cf53_0 hf)

set_option maxHeartbeats 4000000 in
theorem v_X2_tryChange_72 {w : Wo} {K : Kn} {a0 : Nat} {a1 : Nat} {x2 : Int32} {x3 : Int32} {q : Mem} (t_a0 : K a0 = some (.inl 2)) (t_a1 : K a1 = some (.inl 0)) {m : Mem} {x4 : Int32} (hf : f_X2_tryChange_72 K a0 a1 x2 x3 m x4 = some q) : VV w RX2 cX2_tryChange 5 none rm_X2_tryChange false (QM w K none q 0 0) K 72 [none, some (.ref a1), some (.int x2), none, some (.int x4)] [] 0 0 m := by
  unfold f_X2_tryChange_72 at hf
  refine vv_aload_n 73 dX2_tryChange_72 rfl rfl ?_
  obtain ⟨b1, g_b1, hf⟩ := bind_s hf
  have t_b1 := (ldA_spec g_b1).2
  refine gf_RX2_36 76 dX2_tryChange_73 rfl t_a1 (ldA_spec g_b1).1 ?_
  refine vv_iload_n 77 dX2_tryChange_76 rfl rfl ?_
  refine vv_iload 79 dX2_tryChange_77 rfl rfl ?_
  obtain ⟨m2, g_m2, hf⟩ := bind_s hf
  refine vv_iast 80 dX2_tryChange_79 rfl t_b1 g_m2 ?_
  obtain rfl := Option.some.inj hf
  exact vv_vret dX2_tryChange_80 rfl

set_option maxHeartbeats 4000000 in
theorem v_X2_tryChange_62 {w : Wo} {K : Kn} {a0 : Nat} {a1 : Nat} {x2 : Int32} {x3 : Int32} {q : Mem} (t_a0 : K a0 = some (.inl 2)) (t_a1 : K a1 = some (.inl 0)) {m : Mem} {x4 : Int32} (hf : f_X2_tryChange_62 K a0 a1 x2 x3 m x4 = some q) : VV w RX2 cX2_tryChange 5 none rm_X2_tryChange false (QM w K none q 0 0) K 62 [some (.ref a0), some (.ref a1), some (.int x2), none, some (.int x4)] [] 0 0 m := by
  unfold f_X2_tryChange_62 at hf
  refine vv_aload_n 63 dX2_tryChange_62 rfl rfl ?_
  refine vv_dup 64 dX2_tryChange_63 rfl rfl ?_
  refine gf_RX2_13 67 dX2_tryChange_64 rfl t_a0 ?_
  refine vv_iconst 68 (v := 1) dX2_tryChange_67 rfl (by decide) ?_
  refine vv_iadd 69 dX2_tryChange_68 rfl ?_
  obtain ⟨m1, e_m1, hf⟩ := bd_s hf
  refine pf_RX2_13 72 dX2_tryChange_69 rfl t_a0 e_m1 ?_
  exact VV.lle (v_X2_tryChange_72 t_a0 t_a1 hf) (lle_n (lle_s (lle_s (lle_s (lle_s lle_nil)))))

set_option maxHeartbeats 4000000 in
theorem v_X2_tryChange_0 {w : Wo} {K : Kn} {a0 : Nat} {a1 : Nat} {x2 : Int32} {x3 : Int32} {q : Mem} (t_a0 : K a0 = some (.inl 2)) (t_a1 : K a1 = some (.inl 0)) {m : Mem} (hf : f_X2_tryChange K a0 a1 x2 x3 m = some q) : VV w RX2 cX2_tryChange 5 none rm_X2_tryChange false (QM w K none q 0 0) K 0 [some (.ref a0), some (.ref a1), some (.int x2), some (.int x3), none] [] 0 0 m := by
  unfold f_X2_tryChange at hf
  refine vv_aload_n 1 dX2_tryChange_0 rfl rfl ?_
  obtain ⟨b1, g_b1, hf⟩ := bind_s hf
  have t_b1 := (ldA_spec g_b1).2
  refine gf_RX2_36 4 dX2_tryChange_1 rfl t_a1 (ldA_spec g_b1).1 ?_
  refine vv_iload_n 5 dX2_tryChange_4 rfl rfl ?_
  obtain ⟨r2, g_r2, hf⟩ := bind_s hf
  refine vv_iald 6 dX2_tryChange_5 rfl t_b1 g_r2 ?_
  refine vv_istore 8 (L' := [some (.ref a0), some (.ref a1), some (.int x2), some (.int x3), some (.int r2)]) dX2_tryChange_6 rfl (Nat.le_of_ble_eq_true rfl) rfl ?_
  refine vv_iload_n 9 dX2_tryChange_8 rfl rfl ?_
  refine vv_sipush 12 (v := 255) dX2_tryChange_9 rfl (by decide) ?_
  refine vv_icmp_gt 21 15 dX2_tryChange_12 rfl (by decide) (fun c3 => ?_) (fun c3 => ?_)
  · rw [if_pos c3] at hf
    obtain rfl := Option.some.inj hf
    exact vv_vret dX2_tryChange_21 rfl
  · rw [if_neg c3] at hf
    refine vv_iload_n 16 dX2_tryChange_15 rfl rfl ?_
    refine vv_iload 18 dX2_tryChange_16 rfl rfl ?_
    refine vv_icmp_ne 22 21 dX2_tryChange_18 rfl (by decide) (fun c4 => ?_) (fun c4 => ?_)
    · rw [if_pos c4] at hf
      obtain rfl := Option.some.inj hf
      exact vv_vret dX2_tryChange_21 rfl
    · rw [if_neg c4] at hf
      refine vv_aload_n 23 dX2_tryChange_22 rfl rfl ?_
      obtain ⟨b5, g_b5, hf⟩ := bind_s hf
      have t_b5 := (ldA_spec g_b5).2
      refine gf_RX2_36 26 dX2_tryChange_23 rfl t_a1 (ldA_spec g_b5).1 ?_
      refine vv_iload_n 27 dX2_tryChange_26 rfl rfl ?_
      refine vv_iload_n 28 dX2_tryChange_27 rfl rfl ?_
      obtain ⟨m6, g_m6, hf⟩ := bind_s hf
      refine vv_iast 29 dX2_tryChange_28 rfl t_b5 g_m6 ?_
      refine vv_aload_n 30 dX2_tryChange_29 rfl rfl ?_
      obtain ⟨b7, g_b7, hf⟩ := bind_s hf
      have t_b7 := (ldO_spec g_b7).2
      refine gf_RX2_7 33 dX2_tryChange_30 rfl t_a0 (ldO_spec g_b7).1 ?_
      refine vv_aload_n 34 dX2_tryChange_33 rfl rfl ?_
      refine vv_iconst 35 (v := 1) dX2_tryChange_34 rfl (by decide) ?_
      obtain ⟨q8, g_q8, hf⟩ := bind_s hf
      refine vv_callV 38 (st := []) (As := [.ref a1, .int (1 : Int32)]) (stk2 := [.int q8.1]) (cl2 := 0) (sl2 := 0) dX2_tryChange_35 rfl lk_RX2_50 w_623 w_624 rfl t_b7 ⟨(Nat.le_of_ble_eq_true rfl), (Nat.le_of_ble_eq_true rfl)⟩ rfl rfl ⟨(Nat.le_of_ble_eq_true rfl), (Nat.le_of_ble_eq_true rfl)⟩ rfl (Nat.le_of_ble_eq_true rfl) rfl rfl rfl rfl (c_X6_examine t_b7 t_a1 g_q8) ?_
      refine vv_if_ne 72 41 dX2_tryChange_38 rfl (by decide) (fun c9 => ?_) (fun c9 => ?_)
      · rw [if_pos c9] at hf
        refine vv_aload_n 42 dX2_tryChange_41 rfl rfl ?_
        refine gf_RX2_13 45 dX2_tryChange_42 rfl t_a0 ?_
        refine vv_aload_n 46 dX2_tryChange_45 rfl rfl ?_
        refine gf_RX2_17 49 dX2_tryChange_46 rfl t_a0 ?_
        refine vv_icmp_ne 62 52 dX2_tryChange_49 rfl (by decide) (fun c10 => ?_) (fun c10 => ?_)
        · rw [if_pos c10] at hf
          refine vv_aload_n 53 dX2_tryChange_52 rfl rfl ?_
          refine vv_iload_n 54 dX2_tryChange_53 rfl rfl ?_
          obtain ⟨m11, e_m11, hf⟩ := bd_s hf
          refine pf_RX2_56 57 dX2_tryChange_54 rfl t_a0 e_m11 ?_
          refine vv_aload_n 58 dX2_tryChange_57 rfl rfl ?_
          refine vv_iload_n 59 dX2_tryChange_58 rfl rfl ?_
          obtain ⟨m12, e_m12, hf⟩ := bd_s hf
          refine pf_RX2_59 62 dX2_tryChange_59 rfl t_a0 e_m12 ?_
          exact VV.lle (v_X2_tryChange_62 t_a0 t_a1 hf) (lle_s (lle_s (lle_s (lle_n (lle_s lle_nil)))))
        · rw [if_neg c10] at hf
          exact VV.lle (v_X2_tryChange_62 t_a0 t_a1 hf) (lle_s (lle_s (lle_s (lle_n (lle_s lle_nil)))))
      · rw [if_neg c9] at hf
        exact VV.lle (v_X2_tryChange_72 t_a0 t_a1 hf) (lle_n (lle_s (lle_s (lle_n (lle_s lle_nil)))))

theorem c_X2_tryChange {w : Wo} {K : Kn} {a0 : Nat} {a1 : Nat} {x2 : Int32} {x3 : Int32} {q : Mem} {m : Mem} (t_a0 : K a0 = some (.inl 2)) (t_a1 : K a1 = some (.inl 0)) (hf : F_X2_tryChange K m a0 a1 x2 x3 = some q) : MM w K K yX2_tryChange cX2_tryChange 5 none rm_X2_tryChange [.ref a0, .ref a1, .int x2, .int x3] m none q 0 0 :=
  mm_of (ini := false) (n := 1) (plainFor_of_name (by decide)) rfl (fun h => by first | rfl | cases h) (Nat.le_of_ble_eq_true rfl) rfl (v_X2_tryChange_0 t_a0 t_a1 hf)
