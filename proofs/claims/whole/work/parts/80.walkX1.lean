/-! ===== the walks ===== -/
abbrev rm_X0_begin : Room := { frames := 1, cells := 0, slots := 0, locals := 22 }
abbrev rm_X1_begin : Room := { frames := 0, cells := 0, slots := 0, locals := 0 }
abbrev rm_X7_put : Room := { frames := 4, cells := 0, slots := 0, locals := 92 }
abbrev rm_X8_add : Room := { frames := 5, cells := 0, slots := 0, locals := 115 }
abbrev rm_X5_firstFrom : Room := { frames := 0, cells := 0, slots := 0, locals := 0 }
abbrev rm_X5_insert : Room := { frames := 1, cells := 0, slots := 0, locals := 22 }
abbrev rm_X8_late : Room := { frames := 2, cells := 0, slots := 0, locals := 47 }
abbrev rm_J9_max_7cf53 : Room := { frames := 0, cells := 0, slots := 0, locals := 0 }
abbrev rm_X8_would : Room := { frames := 4, cells := 0, slots := 0, locals := 92 }
abbrev rm_X7_broken : Room := { frames := 0, cells := 0, slots := 0, locals := 0 }
abbrev rm_X0_touches : Room := { frames := 0, cells := 0, slots := 0, locals := 0 }
abbrev rm_X6_takeBits : Room := { frames := 0, cells := 0, slots := 0, locals := 0 }
abbrev rm_X6_open : Room := { frames := 1, cells := 0, slots := 0, locals := 27 }
abbrev rm_X6_takeKind : Room := { frames := 1, cells := 0, slots := 0, locals := 27 }
abbrev rm_X6_takeSecond : Room := { frames := 1, cells := 0, slots := 0, locals := 27 }
abbrev rm_X6_takeValue : Room := { frames := 1, cells := 0, slots := 0, locals := 27 }
abbrev rm_X6_isToldSo : Room := { frames := 0, cells := 0, slots := 0, locals := 0 }
abbrev rm_X6_read : Room := { frames := 3, cells := 0, slots := 0, locals := 68 }
abbrev rm_X5_push : Room := { frames := 0, cells := 0, slots := 0, locals := 0 }
abbrev rm_X7_gatherBlock : Room := { frames := 4, cells := 0, slots := 0, locals := 94 }
abbrev rm_X7_gather : Room := { frames := 5, cells := 0, slots := 0, locals := 123 }
abbrev rm_X8_gathered : Room := { frames := 6, cells := 0, slots := 0, locals := 149 }
abbrev rm_X8_useSpare : Room := { frames := 0, cells := 0, slots := 0, locals := 0 }
set_option maxHeartbeats 4000000 in
theorem v_X0_begin_0 {w : Wo} {K : Kn} {a0 : Nat} {x1 : Int32} {x2 : Int64} {q : Mem} (t_a0 : K a0 = some (.inl 0)) {m : Mem} (hf : f_X0_begin K a0 x1 x2 m = some q) : VV w RX0 cX0_begin 4 none rm_X0_begin false (QM w K none q 0 0) K 0 [some (.ref a0), some (.int x1), some (.long x2), none] [] 0 0 m := by
  unfold f_X0_begin at hf
  refine vv_aload_n 1 dX0_begin_0 rfl rfl ?_
  refine vv_iconst 2 (v := 0) dX0_begin_1 rfl (by decide) ?_
  obtain ⟨m1, e_m1, hf⟩ := bd_s hf
  refine pf_RX0_23 5 dX0_begin_2 rfl t_a0 e_m1 ?_
  refine vv_aload_n 6 dX0_begin_5 rfl rfl ?_
  refine vv_iload_n 7 dX0_begin_6 rfl rfl ?_
  obtain ⟨q2, g_q2, hf⟩ := bind_s hf
  refine vv_callV 10 (st := []) (As := [.int x1]) (stk2 := []) (cl2 := 0) (sl2 := 0) dX0_begin_7 rfl lk_RX0_26 w_559 w_560 rfl t_a0 ⟨(Nat.le_of_ble_eq_true rfl), (Nat.le_of_ble_eq_true rfl)⟩ rfl rfl ⟨(Nat.le_of_ble_eq_true rfl), (Nat.le_of_ble_eq_true rfl)⟩ rfl (Nat.le_of_ble_eq_true rfl) rfl rfl rfl rfl (c_X0_append t_a0 g_q2) ?_
  refine vv_aload_n 11 dX0_begin_10 rfl rfl ?_
  refine vv_lload_n 12 dX0_begin_11 rfl rfl ?_
  refine vv_bipush 14 (v := 32) dX0_begin_12 rfl (by decide) ?_
  refine vv_lushr 15 dX0_begin_14 rfl ?_
  refine vv_l2i 16 dX0_begin_15 rfl ?_
  obtain ⟨q3, g_q3, hf⟩ := bind_s hf
  refine vv_callV 19 (st := []) (As := [.int ((lushr x2 (32 : Int32)).toInt32)]) (stk2 := []) (cl2 := 0) (sl2 := 0) dX0_begin_16 rfl lk_RX0_26 w_559 w_560 rfl t_a0 ⟨(Nat.le_of_ble_eq_true rfl), (Nat.le_of_ble_eq_true rfl)⟩ rfl rfl ⟨(Nat.le_of_ble_eq_true rfl), (Nat.le_of_ble_eq_true rfl)⟩ rfl (Nat.le_of_ble_eq_true rfl) rfl rfl rfl rfl (c_X0_append t_a0 g_q3) ?_
  refine vv_aload_n 20 dX0_begin_19 rfl rfl ?_
  refine vv_lload_n 21 dX0_begin_20 rfl rfl ?_
  refine vv_l2i 22 dX0_begin_21 rfl ?_
  obtain ⟨q4, g_q4, hf⟩ := bind_s hf
  refine vv_callV 25 (st := []) (As := [.int ((x2).toInt32)]) (stk2 := []) (cl2 := 0) (sl2 := 0) dX0_begin_22 rfl lk_RX0_26 w_559 w_560 rfl t_a0 ⟨(Nat.le_of_ble_eq_true rfl), (Nat.le_of_ble_eq_true rfl)⟩ rfl rfl ⟨(Nat.le_of_ble_eq_true rfl), (Nat.le_of_ble_eq_true rfl)⟩ rfl (Nat.le_of_ble_eq_true rfl) rfl rfl rfl rfl (c_X0_append t_a0 g_q4) ?_
  refine vv_aload_n 26 dX0_begin_25 rfl rfl ?_
  obtain ⟨b5, g_b5, hf⟩ := bind_s hf
  have t_b5 := (ldA_spec g_b5).2
  refine gf_RX0_9 29 dX0_begin_26 rfl t_a0 (ldA_spec g_b5).1 ?_
  refine vv_bipush 31 (v := 12) dX0_begin_29 rfl (by decide) ?_
  refine vv_iconst 32 (v := 0) dX0_begin_31 rfl (by decide) ?_
  obtain ⟨m6, g_m6, hf⟩ := bind_s hf
  refine vv_iast 33 dX0_begin_32 rfl t_b5 g_m6 ?_
  refine vv_aload_n 34 dX0_begin_33 rfl rfl ?_
  obtain ⟨b7, g_b7, hf⟩ := bind_s hf
  have t_b7 := (ldA_spec g_b7).2
  refine gf_RX0_9 37 dX0_begin_34 rfl t_a0 (ldA_spec g_b7).1 ?_
  refine vv_bipush 39 (v := 13) dX0_begin_37 rfl (by decide) ?_
  refine vv_iconst 40 (v := 1) dX0_begin_39 rfl (by decide) ?_
  obtain ⟨m8, g_m8, hf⟩ := bind_s hf
  refine vv_iast 41 dX0_begin_40 rfl t_b7 g_m8 ?_
  refine vv_aload_n 42 dX0_begin_41 rfl rfl ?_
  refine vv_bipush 44 (v := 14) dX0_begin_42 rfl (by decide) ?_
  obtain ⟨m9, e_m9, hf⟩ := bd_s hf
  refine pf_RX0_23 47 dX0_begin_44 rfl t_a0 e_m9 ?_
  refine vv_aload_n 48 dX0_begin_47 rfl rfl ?_
  refine vv_iconst 49 (v := 0) dX0_begin_48 rfl (by decide) ?_
  obtain ⟨m10, e_m10, hf⟩ := bd_s hf
  refine pf_RX0_30 52 dX0_begin_49 rfl t_a0 e_m10 ?_
  refine vv_aload_n 53 dX0_begin_52 rfl rfl ?_
  refine vv_iconst 54 (v := 1) dX0_begin_53 rfl (by decide) ?_
  obtain ⟨m11, e_m11, hf⟩ := bd_s hf
  refine pf_RX0_33 57 dX0_begin_54 rfl t_a0 e_m11 ?_
  refine vv_aload_n 58 dX0_begin_57 rfl rfl ?_
  refine vv_iload_n 59 dX0_begin_58 rfl rfl ?_
  obtain ⟨m12, e_m12, hf⟩ := bd_s hf
  refine pf_RX0_36 62 dX0_begin_59 rfl t_a0 e_m12 ?_
  refine vv_aload_n 63 dX0_begin_62 rfl rfl ?_
  refine vv_iload_n 64 dX0_begin_63 rfl rfl ?_
  obtain ⟨m13, e_m13, hf⟩ := bd_s hf
  refine pf_RX0_39 67 dX0_begin_64 rfl t_a0 e_m13 ?_
  refine vv_aload_n 68 dX0_begin_67 rfl rfl ?_
  refine vv_iconst 69 (v := 0) dX0_begin_68 rfl (by decide) ?_
  obtain ⟨m14, e_m14, hf⟩ := bd_s hf
  refine pf_RX0_42 72 dX0_begin_69 rfl t_a0 (by decide) e_m14 ?_
  refine vv_aload_n 73 dX0_begin_72 rfl rfl ?_
  refine vv_iconst 74 (v := 0) dX0_begin_73 rfl (by decide) ?_
  obtain ⟨m15, e_m15, hf⟩ := bd_s hf
  refine pf_RX0_46 77 dX0_begin_74 rfl t_a0 e_m15 ?_
  refine vv_aload_n 78 dX0_begin_77 rfl rfl ?_
  refine vv_iconst 79 (v := (-1)) dX0_begin_78 rfl (by decide) ?_
  obtain ⟨m16, e_m16, hf⟩ := bd_s hf
  refine pf_RX0_15 82 dX0_begin_79 rfl t_a0 e_m16 ?_
  obtain rfl := Option.some.inj hf
  exact vv_vret dX0_begin_82 rfl

theorem c_X0_begin {w : Wo} {K : Kn} {a0 : Nat} {x1 : Int32} {x2 : Int64} {q : Mem} {m : Mem} (t_a0 : K a0 = some (.inl 0)) (hf : F_X0_begin K m a0 x1 x2 = some q) : MM w K K yX0_begin cX0_begin 4 none rm_X0_begin [.ref a0, .int x1, .long x2] m none q 0 0 :=
  mm_of (ini := false) (n := 0) (plainFor_of_name (by decide)) rfl (fun h => by first | rfl | cases h) (Nat.le_of_ble_eq_true rfl) rfl (v_X0_begin_0 t_a0 hf)

set_option maxHeartbeats 4000000 in
theorem v_X1_begin_0 {w : Wo} {K : Kn} {a0 : Nat} {x1 : Int32} {x2 : Int64} {q : Mem} (t_a0 : K a0 = some (.inl 1)) {m : Mem} (hf : f_X1_begin K a0 x1 x2 m = some q) : VV w RX1 cX1_begin 4 none rm_X1_begin false (QM w K none q 0 0) K 0 [some (.ref a0), some (.int x1), some (.long x2), none] [] 0 0 m := by
  unfold f_X1_begin at hf
  refine vv_aload_n 1 dX1_begin_0 rfl rfl ?_
  refine vv_iload_n 2 dX1_begin_1 rfl rfl ?_
  obtain ⟨m1, e_m1, hf⟩ := bd_s hf
  refine pf_RX1_15 5 dX1_begin_2 rfl t_a0 e_m1 ?_
  refine vv_aload_n 6 dX1_begin_5 rfl rfl ?_
  refine vv_lload_n 7 dX1_begin_6 rfl rfl ?_
  obtain ⟨m2, e_m2, hf⟩ := bd_s hf
  refine pf_RX1_18 10 dX1_begin_7 rfl t_a0 e_m2 ?_
  refine vv_aload_n 11 dX1_begin_10 rfl rfl ?_
  refine vv_iconst 12 (v := 0) dX1_begin_11 rfl (by decide) ?_
  obtain ⟨m3, e_m3, hf⟩ := bd_s hf
  refine pf_RX1_22 15 dX1_begin_12 rfl t_a0 e_m3 ?_
  refine vv_aload_n 16 dX1_begin_15 rfl rfl ?_
  refine vv_iconst 17 (v := (-1)) dX1_begin_16 rfl (by decide) ?_
  obtain ⟨m4, e_m4, hf⟩ := bd_s hf
  refine pf_RX1_9 20 dX1_begin_17 rfl t_a0 e_m4 ?_
  refine vv_aload_n 21 dX1_begin_20 rfl rfl ?_
  refine vv_iconst 22 (v := 0) dX1_begin_21 rfl (by decide) ?_
  obtain ⟨m5, e_m5, hf⟩ := bd_s hf
  refine pf_RX1_25 25 dX1_begin_22 rfl t_a0 e_m5 ?_
  obtain rfl := Option.some.inj hf
  exact vv_vret dX1_begin_25 rfl

theorem c_X1_begin {w : Wo} {K : Kn} {a0 : Nat} {x1 : Int32} {x2 : Int64} {q : Mem} {m : Mem} (t_a0 : K a0 = some (.inl 1)) (hf : F_X1_begin K m a0 x1 x2 = some q) : MM w K K yX1_begin cX1_begin 4 none rm_X1_begin [.ref a0, .int x1, .long x2] m none q 0 0 :=
  mm_of (ini := false) (n := 0) (plainFor_of_name (by decide)) rfl (fun h => by first | rfl | cases h) (Nat.le_of_ble_eq_true rfl) rfl (v_X1_begin_0 t_a0 hf)

set_option maxHeartbeats 4000000 in
theorem v_X7_put_86 {w : Wo} {K : Kn} {a0 : Nat} {x1 : Int32} {x2 : Int64} {q : (Int32 × Mem)} (t_a0 : K a0 = some (.inl 6)) {m : Mem} (hf : f_X7_put_86 K a0 x1 x2 m = some q) : VV w RX7 cX7_put 4 (some .int) rm_X7_put false (QM w K (some (.int q.1)) q.2 0 0) K 86 [some (.ref a0), some (.int x1), none, none] [] 0 0 m := by
  unfold f_X7_put_86 at hf
  refine vv_aload_n 87 dX7_put_86 rfl rfl ?_
  refine vv_iload_n 88 dX7_put_87 rfl rfl ?_
  obtain ⟨m1, e_m1, hf⟩ := bd_s hf
  refine pf_RX7_33 91 dX7_put_88 rfl t_a0 e_m1 ?_
  refine vv_aload_n 92 dX7_put_91 rfl rfl ?_
  refine gf_RX7_45 95 dX7_put_92 rfl t_a0 ?_
  refine vv_iconst 96 (v := 1) dX7_put_95 rfl (by decide) ?_
  refine vv_isub 97 dX7_put_96 rfl ?_
  obtain rfl := Option.some.inj hf
  exact vv_iret dX7_put_97 rfl

set_option maxHeartbeats 4000000 in
theorem v_X7_put_0 {w : Wo} {K : Kn} {a0 : Nat} {x1 : Int32} {x2 : Int64} {q : (Int32 × Mem)} (t_a0 : K a0 = some (.inl 6)) {m : Mem} (hf : f_X7_put K a0 x1 x2 m = some q) : VV w RX7 cX7_put 4 (some .int) rm_X7_put false (QM w K (some (.int q.1)) q.2 0 0) K 0 [some (.ref a0), some (.int x1), some (.long x2), none] [] 0 0 m := by
  unfold f_X7_put at hf
  refine vv_aload_n 1 dX7_put_0 rfl rfl ?_
  refine vv_iload_n 2 dX7_put_1 rfl rfl ?_
  refine vv_lload_n 3 dX7_put_2 rfl rfl ?_
  obtain ⟨q1, g_q1, hf⟩ := bind_s hf
  refine vv_callV 6 (st := []) (As := [.int x1, .long x2]) (stk2 := [.int q1.1]) (cl2 := 0) (sl2 := 0) dX7_put_3 rfl lk_RX7_80 w_480 w_481 rfl t_a0 ⟨(Nat.le_of_ble_eq_true rfl), (Nat.le_of_ble_eq_true rfl)⟩ rfl rfl ⟨(Nat.le_of_ble_eq_true rfl), (Nat.le_of_ble_eq_true rfl)⟩ rfl (Nat.le_of_ble_eq_true rfl) rfl rfl rfl rfl (c_X7_fits t_a0 g_q1) ?_
  refine vv_if_eq 37 9 dX7_put_6 rfl (by decide) (fun c2 => ?_) (fun c2 => ?_)
  · rw [if_pos c2] at hf
    refine vv_aload_n 38 dX7_put_37 rfl rfl ?_
    refine gf_RX7_45 41 dX7_put_38 rfl t_a0 ?_
    refine vv_bipush 43 (v := 16) dX7_put_41 rfl (by decide) ?_
    refine vv_icmp_lt 49 46 dX7_put_43 rfl (by decide) (fun c3 => ?_) (fun c3 => ?_)
    · rw [if_pos c3] at hf
      refine vv_aload_n 50 dX7_put_49 rfl rfl ?_
      obtain ⟨q4, g_q4, hf⟩ := bind_s hf
      refine vv_callV 53 (st := []) (As := []) (stk2 := []) (cl2 := 0) (sl2 := 0) dX7_put_50 rfl lk_RX7_90 w_544 w_3 rfl t_a0 ⟨(Nat.le_of_ble_eq_true rfl), (Nat.le_of_ble_eq_true rfl)⟩ rfl rfl ⟨(Nat.le_of_ble_eq_true rfl), (Nat.le_of_ble_eq_true rfl)⟩ rfl (Nat.le_of_ble_eq_true rfl) rfl rfl rfl rfl (c_X7_closeOpen t_a0 g_q4) ?_
      refine vv_aload_n 54 dX7_put_53 rfl rfl ?_
      obtain ⟨b5, g_b5, hf⟩ := bind_s hf
      have t_b5 := (ldA_spec g_b5).2
      refine gf_RX7_11 57 dX7_put_54 rfl t_a0 (ldA_spec g_b5).1 ?_
      refine vv_aload_n 58 dX7_put_57 rfl rfl ?_
      refine gf_RX7_45 61 dX7_put_58 rfl t_a0 ?_
      obtain ⟨b6, g_b6, hf⟩ := bind_s hf
      have t_b6 := (alO_spec g_b6).2
      refine vv_aald4 62 dX7_put_61 rfl t_b5 g_b6 ?_
      refine vv_iload_n 63 dX7_put_62 rfl rfl ?_
      refine vv_lload_n 64 dX7_put_63 rfl rfl ?_
      obtain ⟨q7, g_q7, hf⟩ := bind_s hf
      refine vv_callV 67 (st := []) (As := [.int x1, .long x2]) (stk2 := []) (cl2 := 0) (sl2 := 0) dX7_put_64 rfl lk_RX7_93 w_555 w_556 rfl t_b6 ⟨(Nat.le_of_ble_eq_true rfl), (Nat.le_of_ble_eq_true rfl)⟩ rfl rfl ⟨(Nat.le_of_ble_eq_true rfl), (Nat.le_of_ble_eq_true rfl)⟩ rfl (Nat.le_of_ble_eq_true rfl) rfl rfl rfl rfl (c_X0_begin t_b6 g_q7) ?_
      refine vv_aload_n 68 dX7_put_67 rfl rfl ?_
      obtain ⟨b8, g_b8, hf⟩ := bind_s hf
      have t_b8 := (ldO_spec g_b8).2
      refine gf_RX7_29 71 dX7_put_68 rfl t_a0 (ldO_spec g_b8).1 ?_
      refine vv_iload_n 72 dX7_put_71 rfl rfl ?_
      refine vv_lload_n 73 dX7_put_72 rfl rfl ?_
      obtain ⟨q9, g_q9, hf⟩ := bind_s hf
      refine vv_callV 76 (st := []) (As := [.int x1, .long x2]) (stk2 := []) (cl2 := 0) (sl2 := 0) dX7_put_73 rfl lk_RX7_96 w_563 w_564 rfl t_b8 ⟨(Nat.le_of_ble_eq_true rfl), (Nat.le_of_ble_eq_true rfl)⟩ rfl rfl ⟨(Nat.le_of_ble_eq_true rfl), (Nat.le_of_ble_eq_true rfl)⟩ rfl (Nat.le_of_ble_eq_true rfl) rfl rfl rfl rfl (c_X1_begin t_b8 g_q9) ?_
      refine vv_aload_n 77 dX7_put_76 rfl rfl ?_
      refine vv_dup 78 dX7_put_77 rfl rfl ?_
      refine gf_RX7_45 81 dX7_put_78 rfl t_a0 ?_
      refine vv_iconst 82 (v := 1) dX7_put_81 rfl (by decide) ?_
      refine vv_iadd 83 dX7_put_82 rfl ?_
      obtain ⟨m10, e_m10, hf⟩ := bd_s hf
      refine pf_RX7_45 86 dX7_put_83 rfl t_a0 e_m10 ?_
      exact VV.lle (v_X7_put_86 t_a0 hf) (lle_s (lle_s (lle_n (lle_s lle_nil))))
    · rw [if_neg c3] at hf
      refine vv_bipush 48 (v := (-4)) dX7_put_46 rfl (by decide) ?_
      obtain rfl := Option.some.inj hf
      exact vv_iret dX7_put_48 rfl
  · rw [if_neg c2] at hf
    refine vv_aload_n 10 dX7_put_9 rfl rfl ?_
    obtain ⟨b11, g_b11, hf⟩ := bind_s hf
    have t_b11 := (ldA_spec g_b11).2
    refine gf_RX7_11 13 dX7_put_10 rfl t_a0 (ldA_spec g_b11).1 ?_
    refine vv_aload_n 14 dX7_put_13 rfl rfl ?_
    refine gf_RX7_45 17 dX7_put_14 rfl t_a0 ?_
    refine vv_iconst 18 (v := 1) dX7_put_17 rfl (by decide) ?_
    refine vv_isub 19 dX7_put_18 rfl ?_
    obtain ⟨b12, g_b12, hf⟩ := bind_s hf
    have t_b12 := (alO_spec g_b12).2
    refine vv_aald4 20 dX7_put_19 rfl t_b11 g_b12 ?_
    refine vv_aload_n 21 dX7_put_20 rfl rfl ?_
    obtain ⟨b13, g_b13, hf⟩ := bind_s hf
    have t_b13 := (ldO_spec g_b13).2
    refine gf_RX7_29 24 dX7_put_21 rfl t_a0 (ldO_spec g_b13).1 ?_
    obtain ⟨q14, g_q14, hf⟩ := bind_s hf
    refine vv_callV 27 (st := []) (As := [.ref b13]) (stk2 := []) (cl2 := 0) (sl2 := 0) dX7_put_24 rfl lk_RX7_84 w_525 w_526 rfl t_b12 ⟨(Nat.le_of_ble_eq_true rfl), (Nat.le_of_ble_eq_true rfl)⟩ rfl rfl ⟨(Nat.le_of_ble_eq_true rfl), (Nat.le_of_ble_eq_true rfl)⟩ rfl (Nat.le_of_ble_eq_true rfl) rfl rfl rfl rfl (c_X0_write t_b12 t_b13 g_q14) ?_
    refine vv_aload_n 28 dX7_put_27 rfl rfl ?_
    obtain ⟨b15, g_b15, hf⟩ := bind_s hf
    have t_b15 := (ldO_spec g_b15).2
    refine gf_RX7_29 31 dX7_put_28 rfl t_a0 (ldO_spec g_b15).1 ?_
    obtain ⟨q16, g_q16, hf⟩ := bind_s hf
    refine vv_callV 34 (st := []) (As := []) (stk2 := []) (cl2 := 0) (sl2 := 0) dX7_put_31 rfl lk_RX7_87 w_539 w_540 rfl t_b15 ⟨(Nat.le_of_ble_eq_true rfl), (Nat.le_of_ble_eq_true rfl)⟩ rfl rfl ⟨(Nat.le_of_ble_eq_true rfl), (Nat.le_of_ble_eq_true rfl)⟩ rfl (Nat.le_of_ble_eq_true rfl) rfl rfl rfl rfl (c_X1_step t_b15 g_q16) ?_
    refine vv_goto 86 dX7_put_34 (by decide) ?_
    exact VV.lle (v_X7_put_86 t_a0 hf) (lle_s (lle_s (lle_n (lle_s lle_nil))))

theorem c_X7_put {w : Wo} {K : Kn} {a0 : Nat} {x1 : Int32} {x2 : Int64} {q : (Int32 × Mem)} {m : Mem} (t_a0 : K a0 = some (.inl 6)) (hf : F_X7_put K m a0 x1 x2 = some q) : MM w K K yX7_put cX7_put 4 (some .int) rm_X7_put [.ref a0, .int x1, .long x2] m (some (.int q.1)) q.2 0 0 :=
  mm_of (ini := false) (n := 0) (plainFor_of_name (by decide)) rfl (fun h => by first | rfl | cases h) (Nat.le_of_ble_eq_true rfl) rfl (v_X7_put_0 t_a0 hf)

set_option maxHeartbeats 4000000 in
theorem v_X8_add_0 {w : Wo} {K : Kn} {a0 : Nat} {x1 : Int32} {x2 : Int32} {x3 : Int64} {q : (Int32 × Mem)} (t_a0 : K a0 = some (.inl 7)) {m : Mem} (hf : f_X8_add K a0 x1 x2 x3 m = some q) : VV w RX8 cX8_add 5 (some .int) rm_X8_add false (QM w K (some (.int q.1)) q.2 0 0) K 0 [some (.ref a0), some (.int x1), some (.int x2), some (.long x3), none] [] 0 0 m := by
  unfold f_X8_add at hf
  refine vv_aload_n 1 dX8_add_0 rfl rfl ?_
  refine vv_iload_n 2 dX8_add_1 rfl rfl ?_
  obtain ⟨q1, g_q1, hf⟩ := bind_s hf
  refine vv_callV 5 (st := []) (As := [.int x1]) (stk2 := [.int q1]) (cl2 := 0) (sl2 := 0) dX8_add_2 rfl lk_RX8_81 w_469 w_0 rfl t_a0 ⟨(Nat.le_of_ble_eq_true rfl), (Nat.le_of_ble_eq_true rfl)⟩ rfl rfl ⟨(Nat.le_of_ble_eq_true rfl), (Nat.le_of_ble_eq_true rfl)⟩ rfl (Nat.le_of_ble_eq_true rfl) rfl rfl rfl rfl (c_X8_isNone t_a0 g_q1) ?_
  refine vv_if_ne 15 8 dX8_add_5 rfl (by decide) (fun c2 => ?_) (fun c2 => ?_)
  · rw [if_pos c2] at hf
    refine vv_iload_n 9 dX8_add_8 rfl rfl ?_
    obtain ⟨q3, g_q3, hf⟩ := bind_s hf
    refine vv_callS 12 (st := []) (As := [.int x2]) (stk2 := [.int q3]) (cl2 := 0) (sl2 := 0) dX8_add_9 rfl lk_RX8_84 w_472 ⟨(Nat.le_of_ble_eq_true rfl), (Nat.le_of_ble_eq_true rfl)⟩ rfl rfl ⟨(Nat.le_of_ble_eq_true rfl), (Nat.le_of_ble_eq_true rfl)⟩ rfl (Nat.le_of_ble_eq_true rfl) rfl rfl rfl rfl (c_X8_isStamp g_q3) ?_
    refine vv_if_ne 18 15 dX8_add_12 rfl (by decide) (fun c4 => ?_) (fun c4 => ?_)
    · rw [if_pos c4] at hf
      refine vv_bipush 17 (v := (-2)) dX8_add_15 rfl (by decide) ?_
      obtain rfl := Option.some.inj hf
      exact vv_iret dX8_add_17 rfl
    · rw [if_neg c4] at hf
      refine vv_iload_n 19 dX8_add_18 rfl rfl ?_
      refine vv_aload_n 20 dX8_add_19 rfl rfl ?_
      obtain ⟨b5, g_b5, hf⟩ := bind_s hf
      have t_b5 := (ldA_spec g_b5).2
      refine gf_RX8_11 23 dX8_add_20 rfl t_a0 (ldA_spec g_b5).1 ?_
      refine vv_iload_n 24 dX8_add_23 rfl rfl ?_
      obtain ⟨b6, g_b6, hf⟩ := bind_s hf
      have t_b6 := (alO_spec g_b6).2
      refine vv_aald3 25 dX8_add_24 rfl t_b5 g_b6 ?_
      refine gf_RX8_87 28 dX8_add_25 rfl t_b6 ?_
      refine vv_icmp_gt 34 31 dX8_add_28 rfl (by decide) (fun c7 => ?_) (fun c7 => ?_)
      · rw [if_pos c7] at hf
        refine vv_aload_n 35 dX8_add_34 rfl rfl ?_
        obtain ⟨b8, g_b8, hf⟩ := bind_s hf
        have t_b8 := (ldA_spec g_b8).2
        refine gf_RX8_11 38 dX8_add_35 rfl t_a0 (ldA_spec g_b8).1 ?_
        refine vv_iload_n 39 dX8_add_38 rfl rfl ?_
        obtain ⟨b9, g_b9, hf⟩ := bind_s hf
        have t_b9 := (alO_spec g_b9).2
        refine vv_aald3 40 dX8_add_39 rfl t_b8 g_b9 ?_
        refine vv_iload_n 41 dX8_add_40 rfl rfl ?_
        refine vv_lload_n 42 dX8_add_41 rfl rfl ?_
        obtain ⟨q10, g_q10, hf⟩ := bind_s hf
        refine vv_callV 45 (st := []) (As := [.int x2, .long x3]) (stk2 := [.int q10.1]) (cl2 := 0) (sl2 := 0) dX8_add_42 rfl lk_RX8_91 w_476 w_477 rfl t_b9 ⟨(Nat.le_of_ble_eq_true rfl), (Nat.le_of_ble_eq_true rfl)⟩ rfl rfl ⟨(Nat.le_of_ble_eq_true rfl), (Nat.le_of_ble_eq_true rfl)⟩ rfl (Nat.le_of_ble_eq_true rfl) rfl rfl rfl rfl (c_X7_put t_b9 g_q10) ?_
        obtain rfl := Option.some.inj hf
        exact vv_iret dX8_add_45 rfl
      · rw [if_neg c7] at hf
        refine vv_bipush 33 (v := (-5)) dX8_add_31 rfl (by decide) ?_
        obtain rfl := Option.some.inj hf
        exact vv_iret dX8_add_33 rfl
  · rw [if_neg c2] at hf
    refine vv_bipush 17 (v := (-2)) dX8_add_15 rfl (by decide) ?_
    obtain rfl := Option.some.inj hf
    exact vv_iret dX8_add_17 rfl

theorem c_X8_add {w : Wo} {K : Kn} {a0 : Nat} {x1 : Int32} {x2 : Int32} {x3 : Int64} {q : (Int32 × Mem)} {m : Mem} (t_a0 : K a0 = some (.inl 7)) (hf : F_X8_add K m a0 x1 x2 x3 = some q) : MM w K K yX8_add cX8_add 5 (some .int) rm_X8_add [.ref a0, .int x1, .int x2, .long x3] m (some (.int q.1)) q.2 0 0 :=
  mm_of (ini := false) (n := 0) (plainFor_of_name (by decide)) rfl (fun h => by first | rfl | cases h) (Nat.le_of_ble_eq_true rfl) rfl (v_X8_add_0 t_a0 hf)

set_option maxHeartbeats 4000000 in
theorem v_X5_firstFrom_26 {w : Wo} {K : Kn} {a0 : Nat} {x1 : Int32} {q : Int32} {m : Mem} (t_a0 : K a0 = some (.inl 4)) {x2 : Int32} (hf : f_X5_firstFrom_26 K m a0 x1 x2 = some q) : VV w RX5 cX5_firstFrom 3 (some .int) rm_X5_firstFrom false (QM w K (some (.int q)) m 0 0) K 26 [none, none, some (.int x2)] [] 0 0 m := by
  unfold f_X5_firstFrom_26 at hf
  refine vv_iload_n 27 dX5_firstFrom_26 rfl rfl ?_
  obtain rfl := Option.some.inj hf
  exact vv_iret dX5_firstFrom_27 rfl

set_option maxHeartbeats 4000000 in
theorem v_X5_firstFrom_2B {w : Wo} {K : Kn} {a0 : Nat} {x1 : Int32} {q : Int32} {m : Mem} (t_a0 : K a0 = some (.inl 4)) (k2 : Int32 → Option Int32) (hk2 : ∀ (x2 : Int32), k2 x2 = some q → VV w RX5 cX5_firstFrom 3 (some .int) rm_X5_firstFrom false (QM w K (some (.int q)) m 0 0) K 2 [some (.ref a0), some (.int x1), some (.int x2)] [] 0 0 m) {x2 : Int32} (hf : f_X5_firstFrom_2B K m a0 x1 k2 x2 = some q) : VV w RX5 cX5_firstFrom 3 (some .int) rm_X5_firstFrom false (QM w K (some (.int q)) m 0 0) K 2 [some (.ref a0), some (.int x1), some (.int x2)] [] 0 0 m := by
  unfold f_X5_firstFrom_2B at hf
  refine vv_iload_n 3 dX5_firstFrom_2 rfl rfl ?_
  refine vv_aload_n 4 dX5_firstFrom_3 rfl rfl ?_
  refine gf_RX5_19 7 dX5_firstFrom_4 rfl t_a0 ?_
  refine vv_icmp_ge 26 10 dX5_firstFrom_7 rfl (by decide) (fun c1 => ?_) (fun c1 => ?_)
  · rw [if_pos c1] at hf
    exact VV.lle (v_X5_firstFrom_26 t_a0 hf) (lle_n (lle_n (lle_s lle_nil)))
  · rw [if_neg c1] at hf
    refine vv_aload_n 11 dX5_firstFrom_10 rfl rfl ?_
    obtain ⟨b2, g_b2, hf⟩ := bind_s hf
    have t_b2 := (ldA_spec g_b2).2
    refine gf_RX5_9 14 dX5_firstFrom_11 rfl t_a0 (ldA_spec g_b2).1 ?_
    refine vv_iload_n 15 dX5_firstFrom_14 rfl rfl ?_
    obtain ⟨r3, g_r3, hf⟩ := bind_s hf
    refine vv_iald 16 dX5_firstFrom_15 rfl t_b2 g_r3 ?_
    refine vv_iload_n 17 dX5_firstFrom_16 rfl rfl ?_
    refine vv_icmp_ge 26 20 dX5_firstFrom_17 rfl (by decide) (fun c4 => ?_) (fun c4 => ?_)
    · rw [if_pos c4] at hf
      exact VV.lle (v_X5_firstFrom_26 t_a0 hf) (lle_n (lle_n (lle_s lle_nil)))
    · rw [if_neg c4] at hf
      obtain ⟨z5, e_z5, hf⟩ := bd_s hf
      refine vv_iincE (q := 23) (v := z5) (c := 1) (L' := [some (.ref a0), some (.int x1), some (.int z5)]) e_z5 dX5_firstFrom_20 rfl rfl (by decide) (Nat.le_of_ble_eq_true rfl) rfl ?_
      refine vv_goto 2 dX5_firstFrom_23 (by decide) ?_
      exact hk2 _ hf

theorem v_X5_firstFrom_2 {w : Wo} {K : Kn} {a0 : Nat} {x1 : Int32} {q : Int32} {m : Mem} (t_a0 : K a0 = some (.inl 4)) : ∀ (n : Nat) (x2 : Int32), f_X5_firstFrom_2 K m a0 x1 n x2 = some q → VV w RX5 cX5_firstFrom 3 (some .int) rm_X5_firstFrom false (QM w K (some (.int q)) m 0 0) K 2 [some (.ref a0), some (.int x1), some (.int x2)] [] 0 0 m := by
  intro n
  induction n with
  | zero => intro x2 hf; cases hf
  | succ n ih => intro x2 hf; exact v_X5_firstFrom_2B (a0 := a0) (x1 := x1) t_a0 (f_X5_firstFrom_2 K m a0 x1 n) ih hf

set_option maxHeartbeats 4000000 in
theorem v_X5_firstFrom_0 {w : Wo} {K : Kn} {a0 : Nat} {x1 : Int32} {q : Int32} {m : Mem} (t_a0 : K a0 = some (.inl 4)) (hf : f_X5_firstFrom K m a0 x1 = some q) : VV w RX5 cX5_firstFrom 3 (some .int) rm_X5_firstFrom false (QM w K (some (.int q)) m 0 0) K 0 [some (.ref a0), some (.int x1), none] [] 0 0 m := by
  unfold f_X5_firstFrom at hf
  refine vv_iconst 1 (v := 0) dX5_firstFrom_0 rfl (by decide) ?_
  refine vv_istore_n 2 (L' := [some (.ref a0), some (.int x1), some (.int (0 : Int32))]) dX5_firstFrom_1 rfl (Nat.le_of_ble_eq_true rfl) rfl ?_
  exact v_X5_firstFrom_2 t_a0 FU _ hf

theorem c_X5_firstFrom {w : Wo} {K : Kn} {a0 : Nat} {x1 : Int32} {q : Int32} {m : Mem} (t_a0 : K a0 = some (.inl 4)) (hf : F_X5_firstFrom K m a0 x1 = some q) : MM w K K yX5_firstFrom cX5_firstFrom 3 (some .int) rm_X5_firstFrom [.ref a0, .int x1] m (some (.int q)) m 0 0 :=
  mm_of (ini := false) (n := 1) (plainFor_of_name (by decide)) rfl (fun h => by first | rfl | cases h) (Nat.le_of_ble_eq_true rfl) rfl (v_X5_firstFrom_0 t_a0 hf)

set_option maxHeartbeats 4000000 in
theorem v_X5_insert_57B {w : Wo} {K : Kn} {a0 : Nat} {x1 : Int32} {x2 : Int64} {q : (Int32 × Mem)} (t_a0 : K a0 = some (.inl 4)) (k57 : Mem → Int32 → Int32 → Option (Int32 × Mem)) (hk57 : ∀ (m : Mem) (x4 : Int32) (x5 : Int32), k57 m x4 x5 = some q → VV w RX5 cX5_insert 6 (some .boolean) rm_X5_insert false (QM w K (some (.int q.1)) q.2 0 0) K 57 [some (.ref a0), some (.int x1), some (.long x2), none, some (.int x4), some (.int x5)] [] 0 0 m) {m : Mem} {x4 : Int32} {x5 : Int32} (hf : f_X5_insert_57B K a0 x1 x2 k57 m x4 x5 = some q) : VV w RX5 cX5_insert 6 (some .boolean) rm_X5_insert false (QM w K (some (.int q.1)) q.2 0 0) K 57 [some (.ref a0), some (.int x1), some (.long x2), none, some (.int x4), some (.int x5)] [] 0 0 m := by
  unfold f_X5_insert_57B at hf
  refine vv_iload 59 dX5_insert_57 rfl rfl ?_
  refine vv_iload 61 dX5_insert_59 rfl rfl ?_
  refine vv_icmp_le 102 64 dX5_insert_61 rfl (by decide) (fun c1 => ?_) (fun c1 => ?_)
  · rw [if_pos c1] at hf
    refine vv_aload_n 103 dX5_insert_102 rfl rfl ?_
    obtain ⟨b2, g_b2, hf⟩ := bind_s hf
    have t_b2 := (ldA_spec g_b2).2
    refine gf_RX5_9 106 dX5_insert_103 rfl t_a0 (ldA_spec g_b2).1 ?_
    refine vv_iload 108 dX5_insert_106 rfl rfl ?_
    refine vv_iload_n 109 dX5_insert_108 rfl rfl ?_
    obtain ⟨m3, g_m3, hf⟩ := bind_s hf
    refine vv_iast 110 dX5_insert_109 rfl t_b2 g_m3 ?_
    refine vv_aload_n 111 dX5_insert_110 rfl rfl ?_
    obtain ⟨b4, g_b4, hf⟩ := bind_s hf
    have t_b4 := (ldA_spec g_b4).2
    refine gf_RX5_15 114 dX5_insert_111 rfl t_a0 (ldA_spec g_b4).1 ?_
    refine vv_iload 116 dX5_insert_114 rfl rfl ?_
    refine vv_lload_n 117 dX5_insert_116 rfl rfl ?_
    obtain ⟨m5, g_m5, hf⟩ := bind_s hf
    refine vv_last 118 dX5_insert_117 rfl t_b4 g_m5 ?_
    refine vv_aload_n 119 dX5_insert_118 rfl rfl ?_
    refine vv_dup 120 dX5_insert_119 rfl rfl ?_
    refine gf_RX5_19 123 dX5_insert_120 rfl t_a0 ?_
    refine vv_iconst 124 (v := 1) dX5_insert_123 rfl (by decide) ?_
    refine vv_iadd 125 dX5_insert_124 rfl ?_
    obtain ⟨m6, e_m6, hf⟩ := bd_s hf
    refine pf_RX5_19 128 dX5_insert_125 rfl t_a0 e_m6 ?_
    refine vv_iconst 129 (v := 1) dX5_insert_128 rfl (by decide) ?_
    obtain rfl := Option.some.inj hf
    exact vv_zret dX5_insert_129 rfl (Or.inr rfl)
  · rw [if_neg c1] at hf
    refine vv_aload_n 65 dX5_insert_64 rfl rfl ?_
    obtain ⟨b7, g_b7, hf⟩ := bind_s hf
    have t_b7 := (ldA_spec g_b7).2
    refine gf_RX5_9 68 dX5_insert_65 rfl t_a0 (ldA_spec g_b7).1 ?_
    refine vv_iload 70 dX5_insert_68 rfl rfl ?_
    refine vv_aload_n 71 dX5_insert_70 rfl rfl ?_
    obtain ⟨b8, g_b8, hf⟩ := bind_s hf
    have t_b8 := (ldA_spec g_b8).2
    refine gf_RX5_9 74 dX5_insert_71 rfl t_a0 (ldA_spec g_b8).1 ?_
    refine vv_iload 76 dX5_insert_74 rfl rfl ?_
    refine vv_iconst 77 (v := 1) dX5_insert_76 rfl (by decide) ?_
    refine vv_isub 78 dX5_insert_77 rfl ?_
    obtain ⟨r9, g_r9, hf⟩ := bind_s hf
    refine vv_iald 79 dX5_insert_78 rfl t_b8 g_r9 ?_
    obtain ⟨m10, g_m10, hf⟩ := bind_s hf
    refine vv_iast 80 dX5_insert_79 rfl t_b7 g_m10 ?_
    refine vv_aload_n 81 dX5_insert_80 rfl rfl ?_
    obtain ⟨b11, g_b11, hf⟩ := bind_s hf
    have t_b11 := (ldA_spec g_b11).2
    refine gf_RX5_15 84 dX5_insert_81 rfl t_a0 (ldA_spec g_b11).1 ?_
    refine vv_iload 86 dX5_insert_84 rfl rfl ?_
    refine vv_aload_n 87 dX5_insert_86 rfl rfl ?_
    obtain ⟨b12, g_b12, hf⟩ := bind_s hf
    have t_b12 := (ldA_spec g_b12).2
    refine gf_RX5_15 90 dX5_insert_87 rfl t_a0 (ldA_spec g_b12).1 ?_
    refine vv_iload 92 dX5_insert_90 rfl rfl ?_
    refine vv_iconst 93 (v := 1) dX5_insert_92 rfl (by decide) ?_
    refine vv_isub 94 dX5_insert_93 rfl ?_
    obtain ⟨r13, g_r13, hf⟩ := bind_s hf
    refine vv_lald 95 dX5_insert_94 rfl t_b12 g_r13 ?_
    obtain ⟨m14, g_m14, hf⟩ := bind_s hf
    refine vv_last 96 dX5_insert_95 rfl t_b11 g_m14 ?_
    obtain ⟨z15, e_z15, hf⟩ := bd_s hf
    refine vv_iincE (q := 99) (v := z15) (c := (-1)) (L' := [some (.ref a0), some (.int x1), some (.long x2), none, some (.int x4), some (.int z15)]) e_z15 dX5_insert_96 rfl rfl (by decide) (Nat.le_of_ble_eq_true rfl) rfl ?_
    refine vv_goto 57 dX5_insert_99 (by decide) ?_
    exact hk57 _ _ _ hf

theorem v_X5_insert_57 {w : Wo} {K : Kn} {a0 : Nat} {x1 : Int32} {x2 : Int64} {q : (Int32 × Mem)} (t_a0 : K a0 = some (.inl 4)) : ∀ (n : Nat) (m : Mem) (x4 : Int32) (x5 : Int32), f_X5_insert_57 K a0 x1 x2 n m x4 x5 = some q → VV w RX5 cX5_insert 6 (some .boolean) rm_X5_insert false (QM w K (some (.int q.1)) q.2 0 0) K 57 [some (.ref a0), some (.int x1), some (.long x2), none, some (.int x4), some (.int x5)] [] 0 0 m := by
  intro n
  induction n with
  | zero => intro m x4 x5 hf; cases hf
  | succ n ih => intro m x4 x5 hf; exact v_X5_insert_57B (a0 := a0) (x1 := x1) (x2 := x2) t_a0 (f_X5_insert_57 K a0 x1 x2 n) ih hf

set_option maxHeartbeats 4000000 in
theorem v_X5_insert_37 {w : Wo} {K : Kn} {a0 : Nat} {x1 : Int32} {x2 : Int64} {q : (Int32 × Mem)} (t_a0 : K a0 = some (.inl 4)) {m : Mem} {x4 : Int32} (hf : f_X5_insert_37 K a0 x1 x2 m x4 = some q) : VV w RX5 cX5_insert 6 (some .boolean) rm_X5_insert false (QM w K (some (.int q.1)) q.2 0 0) K 37 [some (.ref a0), some (.int x1), some (.long x2), none, some (.int x4), none] [] 0 0 m := by
  unfold f_X5_insert_37 at hf
  refine vv_aload_n 38 dX5_insert_37 rfl rfl ?_
  refine gf_RX5_19 41 dX5_insert_38 rfl t_a0 ?_
  refine vv_aload_n 42 dX5_insert_41 rfl rfl ?_
  obtain ⟨b1, g_b1, hf⟩ := bind_s hf
  have t_b1 := (ldA_spec g_b1).2
  refine gf_RX5_9 45 dX5_insert_42 rfl t_a0 (ldA_spec g_b1).1 ?_
  refine vv_alen 46 dX5_insert_45 rfl (by decide) t_b1 ?_
  refine vv_icmp_lt 51 49 dX5_insert_46 rfl (by decide) (fun c2 => ?_) (fun c2 => ?_)
  · rw [if_pos c2] at hf
    refine vv_aload_n 52 dX5_insert_51 rfl rfl ?_
    refine gf_RX5_19 55 dX5_insert_52 rfl t_a0 ?_
    obtain ⟨z3, e_z3, hf⟩ := bd_s hf
    refine vv_istoreE (q := 57) (v := z3) (L' := [some (.ref a0), some (.int x1), some (.long x2), none, some (.int x4), some (.int z3)]) e_z3 dX5_insert_55 rfl (Nat.le_of_ble_eq_true rfl) rfl ?_
    exact v_X5_insert_57 t_a0 FU _ _ _ hf
  · rw [if_neg c2] at hf
    refine vv_iconst 50 (v := 0) dX5_insert_49 rfl (by decide) ?_
    obtain rfl := Option.some.inj hf
    exact vv_zret dX5_insert_50 rfl (Or.inl rfl)

set_option maxHeartbeats 4000000 in
theorem v_X5_insert_0 {w : Wo} {K : Kn} {a0 : Nat} {x1 : Int32} {x2 : Int64} {q : (Int32 × Mem)} (t_a0 : K a0 = some (.inl 4)) {m : Mem} (hf : f_X5_insert K a0 x1 x2 m = some q) : VV w RX5 cX5_insert 6 (some .boolean) rm_X5_insert false (QM w K (some (.int q.1)) q.2 0 0) K 0 [some (.ref a0), some (.int x1), some (.long x2), none, none, none] [] 0 0 m := by
  unfold f_X5_insert at hf
  refine vv_aload_n 1 dX5_insert_0 rfl rfl ?_
  refine vv_iload_n 2 dX5_insert_1 rfl rfl ?_
  obtain ⟨q1, g_q1, hf⟩ := bind_s hf
  refine vv_callV 5 (st := []) (As := [.int x1]) (stk2 := [.int q1]) (cl2 := 0) (sl2 := 0) dX5_insert_2 rfl lk_RX5_27 w_575 w_576 rfl t_a0 ⟨(Nat.le_of_ble_eq_true rfl), (Nat.le_of_ble_eq_true rfl)⟩ rfl rfl ⟨(Nat.le_of_ble_eq_true rfl), (Nat.le_of_ble_eq_true rfl)⟩ rfl (Nat.le_of_ble_eq_true rfl) rfl rfl rfl rfl (c_X5_firstFrom t_a0 g_q1) ?_
  refine vv_istore 7 (L' := [some (.ref a0), some (.int x1), some (.long x2), none, some (.int q1), none]) dX5_insert_5 rfl (Nat.le_of_ble_eq_true rfl) rfl ?_
  refine vv_iload 9 dX5_insert_7 rfl rfl ?_
  refine vv_aload_n 10 dX5_insert_9 rfl rfl ?_
  refine gf_RX5_19 13 dX5_insert_10 rfl t_a0 ?_
  refine vv_icmp_ge 37 16 dX5_insert_13 rfl (by decide) (fun c2 => ?_) (fun c2 => ?_)
  · rw [if_pos c2] at hf
    exact v_X5_insert_37 t_a0 hf
  · rw [if_neg c2] at hf
    refine vv_aload_n 17 dX5_insert_16 rfl rfl ?_
    obtain ⟨b3, g_b3, hf⟩ := bind_s hf
    have t_b3 := (ldA_spec g_b3).2
    refine gf_RX5_9 20 dX5_insert_17 rfl t_a0 (ldA_spec g_b3).1 ?_
    refine vv_iload 22 dX5_insert_20 rfl rfl ?_
    obtain ⟨r4, g_r4, hf⟩ := bind_s hf
    refine vv_iald 23 dX5_insert_22 rfl t_b3 g_r4 ?_
    refine vv_iload_n 24 dX5_insert_23 rfl rfl ?_
    refine vv_icmp_ne 37 27 dX5_insert_24 rfl (by decide) (fun c5 => ?_) (fun c5 => ?_)
    · rw [if_pos c5] at hf
      refine vv_aload_n 28 dX5_insert_27 rfl rfl ?_
      obtain ⟨b6, g_b6, hf⟩ := bind_s hf
      have t_b6 := (ldA_spec g_b6).2
      refine gf_RX5_15 31 dX5_insert_28 rfl t_a0 (ldA_spec g_b6).1 ?_
      refine vv_iload 33 dX5_insert_31 rfl rfl ?_
      refine vv_lload_n 34 dX5_insert_33 rfl rfl ?_
      obtain ⟨m7, g_m7, hf⟩ := bind_s hf
      refine vv_last 35 dX5_insert_34 rfl t_b6 g_m7 ?_
      refine vv_iconst 36 (v := 1) dX5_insert_35 rfl (by decide) ?_
      obtain rfl := Option.some.inj hf
      exact vv_zret dX5_insert_36 rfl (Or.inr rfl)
    · rw [if_neg c5] at hf
      exact v_X5_insert_37 t_a0 hf

theorem c_X5_insert {w : Wo} {K : Kn} {a0 : Nat} {x1 : Int32} {x2 : Int64} {q : (Int32 × Mem)} {m : Mem} (t_a0 : K a0 = some (.inl 4)) (hf : F_X5_insert K m a0 x1 x2 = some q) : MM w K K yX5_insert cX5_insert 6 (some .boolean) rm_X5_insert [.ref a0, .int x1, .long x2] m (some (.int q.1)) q.2 0 0 :=
  mm_of (ini := false) (n := 2) (plainFor_of_name (by decide)) rfl (fun h => by first | rfl | cases h) (Nat.le_of_ble_eq_true rfl) rfl (v_X5_insert_0 t_a0 hf)

set_option maxHeartbeats 4000000 in
theorem v_X8_late_0 {w : Wo} {K : Kn} {a0 : Nat} {x1 : Int32} {x2 : Int32} {x3 : Int64} {q : (Int32 × Mem)} (t_a0 : K a0 = some (.inl 7)) {m : Mem} (hf : f_X8_late K a0 x1 x2 x3 m = some q) : VV w RX8 cX8_late 6 (some .int) rm_X8_late false (QM w K (some (.int q.1)) q.2 0 0) K 0 [some (.ref a0), some (.int x1), some (.int x2), some (.long x3), none, none] [] 0 0 m := by
  unfold f_X8_late at hf
  refine vv_aload_n 1 dX8_late_0 rfl rfl ?_
  refine vv_iload_n 2 dX8_late_1 rfl rfl ?_
  obtain ⟨q1, g_q1, hf⟩ := bind_s hf
  refine vv_callV 5 (st := []) (As := [.int x1]) (stk2 := [.int q1]) (cl2 := 0) (sl2 := 0) dX8_late_2 rfl lk_RX8_81 w_469 w_0 rfl t_a0 ⟨(Nat.le_of_ble_eq_true rfl), (Nat.le_of_ble_eq_true rfl)⟩ rfl rfl ⟨(Nat.le_of_ble_eq_true rfl), (Nat.le_of_ble_eq_true rfl)⟩ rfl (Nat.le_of_ble_eq_true rfl) rfl rfl rfl rfl (c_X8_isNone t_a0 g_q1) ?_
  refine vv_if_ne 15 8 dX8_late_5 rfl (by decide) (fun c2 => ?_) (fun c2 => ?_)
  · rw [if_pos c2] at hf
    refine vv_iload_n 9 dX8_late_8 rfl rfl ?_
    obtain ⟨q3, g_q3, hf⟩ := bind_s hf
    refine vv_callS 12 (st := []) (As := [.int x2]) (stk2 := [.int q3]) (cl2 := 0) (sl2 := 0) dX8_late_9 rfl lk_RX8_84 w_472 ⟨(Nat.le_of_ble_eq_true rfl), (Nat.le_of_ble_eq_true rfl)⟩ rfl rfl ⟨(Nat.le_of_ble_eq_true rfl), (Nat.le_of_ble_eq_true rfl)⟩ rfl (Nat.le_of_ble_eq_true rfl) rfl rfl rfl rfl (c_X8_isStamp g_q3) ?_
    refine vv_if_ne 18 15 dX8_late_12 rfl (by decide) (fun c4 => ?_) (fun c4 => ?_)
    · rw [if_pos c4] at hf
      refine vv_bipush 17 (v := (-2)) dX8_late_15 rfl (by decide) ?_
      obtain rfl := Option.some.inj hf
      exact vv_iret dX8_late_17 rfl
    · rw [if_neg c4] at hf
      refine vv_aload_n 19 dX8_late_18 rfl rfl ?_
      obtain ⟨b5, g_b5, hf⟩ := bind_s hf
      have t_b5 := (ldA_spec g_b5).2
      refine gf_RX8_11 22 dX8_late_19 rfl t_a0 (ldA_spec g_b5).1 ?_
      refine vv_iload_n 23 dX8_late_22 rfl rfl ?_
      obtain ⟨b6, g_b6, hf⟩ := bind_s hf
      have t_b6 := (alO_spec g_b6).2
      refine vv_aald3 24 dX8_late_23 rfl t_b5 g_b6 ?_
      refine vv_astore 26 (L' := [some (.ref a0), some (.int x1), some (.int x2), some (.long x3), none, some (.ref b6)]) dX8_late_24 rfl (Nat.le_of_ble_eq_true rfl) rfl ?_
      refine vv_iload_n 27 dX8_late_26 rfl rfl ?_
      refine vv_aload 29 dX8_late_27 rfl rfl ?_
      refine gf_RX8_87 32 dX8_late_29 rfl t_b6 ?_
      refine vv_icmp_le 38 35 dX8_late_32 rfl (by decide) (fun c7 => ?_) (fun c7 => ?_)
      · rw [if_pos c7] at hf
        refine vv_aload 40 dX8_late_38 rfl rfl ?_
        obtain ⟨b8, g_b8, hf⟩ := bind_s hf
        have t_b8 := (ldO_spec g_b8).2
        refine gf_RX8_95 43 dX8_late_40 rfl t_b6 (ldO_spec g_b8).1 ?_
        refine vv_iload_n 44 dX8_late_43 rfl rfl ?_
        refine vv_lload_n 45 dX8_late_44 rfl rfl ?_
        obtain ⟨q9, g_q9, hf⟩ := bind_s hf
        refine vv_callV 48 (st := []) (As := [.int x2, .long x3]) (stk2 := [.int q9.1]) (cl2 := 0) (sl2 := 0) dX8_late_45 rfl lk_RX8_98 w_571 w_572 rfl t_b8 ⟨(Nat.le_of_ble_eq_true rfl), (Nat.le_of_ble_eq_true rfl)⟩ rfl rfl ⟨(Nat.le_of_ble_eq_true rfl), (Nat.le_of_ble_eq_true rfl)⟩ rfl (Nat.le_of_ble_eq_true rfl) rfl rfl rfl rfl (c_X5_insert t_b8 g_q9) ?_
        refine vv_if_eq 62 51 dX8_late_48 rfl (by decide) (fun c10 => ?_) (fun c10 => ?_)
        · rw [if_pos c10] at hf
          refine vv_bipush 64 (v := (-4)) dX8_late_62 rfl (by decide) ?_
          obtain rfl := Option.some.inj hf
          exact vv_iret dX8_late_64 rfl
        · rw [if_neg c10] at hf
          refine vv_aload 53 dX8_late_51 rfl rfl ?_
          obtain ⟨b11, g_b11, hf⟩ := bind_s hf
          have t_b11 := (ldO_spec g_b11).2
          refine gf_RX8_95 56 dX8_late_53 rfl t_b6 (ldO_spec g_b11).1 ?_
          refine gf_RX8_102 59 dX8_late_56 rfl t_b11 ?_
          refine vv_goto 64 dX8_late_59 (by decide) ?_
          obtain rfl := Option.some.inj hf
          exact vv_iret dX8_late_64 rfl
      · rw [if_neg c7] at hf
        refine vv_bipush 37 (v := (-5)) dX8_late_35 rfl (by decide) ?_
        obtain rfl := Option.some.inj hf
        exact vv_iret dX8_late_37 rfl
  · rw [if_neg c2] at hf
    refine vv_bipush 17 (v := (-2)) dX8_late_15 rfl (by decide) ?_
    obtain rfl := Option.some.inj hf
    exact vv_iret dX8_late_17 rfl

theorem c_X8_late {w : Wo} {K : Kn} {a0 : Nat} {x1 : Int32} {x2 : Int32} {x3 : Int64} {q : (Int32 × Mem)} {m : Mem} (t_a0 : K a0 = some (.inl 7)) (hf : F_X8_late K m a0 x1 x2 x3 = some q) : MM w K K yX8_late cX8_late 6 (some .int) rm_X8_late [.ref a0, .int x1, .int x2, .long x3] m (some (.int q.1)) q.2 0 0 :=
  mm_of (ini := false) (n := 1) (plainFor_of_name (by decide)) rfl (fun h => by first | rfl | cases h) (Nat.le_of_ble_eq_true rfl) rfl (v_X8_late_0 t_a0 hf)

set_option maxHeartbeats 4000000 in
theorem v_J9_max_7cf53_0 {w : Wo} {K : Kn} {x0 : Int32} {x1 : Int32} {q : Int32} {m : Mem} (hf : f_J9_max_7cf53 x0 x1 = some q) : VV w RJ9 cJ9_max_7cf53 2 (some .int) rm_J9_max_7cf53 false (QM w K (some (.int q)) m 0 0) K 0 [some (.int x0), some (.int x1)] [] 0 0 m := by
  unfold f_J9_max_7cf53 at hf
  refine vv_iload_n 1 dJ9_max_7cf53_0 rfl rfl ?_
  refine vv_iload_n 2 dJ9_max_7cf53_1 rfl rfl ?_
  refine vv_icmp_lt 9 5 dJ9_max_7cf53_2 rfl (by decide) (fun c1 => ?_) (fun c1 => ?_)
  · rw [if_pos c1] at hf
    refine vv_iload_n 10 dJ9_max_7cf53_9 rfl rfl ?_
    obtain rfl := Option.some.inj hf
    exact vv_iret dJ9_max_7cf53_10 rfl
  · rw [if_neg c1] at hf
    refine vv_iload_n 6 dJ9_max_7cf53_5 rfl rfl ?_
    refine vv_goto 10 dJ9_max_7cf53_6 (by decide) ?_
    obtain rfl := Option.some.inj hf
    exact vv_iret dJ9_max_7cf53_10 rfl

theorem c_J9_max_7cf53 {w : Wo} {K : Kn} {x0 : Int32} {x1 : Int32} {q : Int32} {m : Mem} (hf : F_J9_max_7cf53 x0 x1 = some q) : MM w K K yJ9_max_7cf53 cJ9_max_7cf53 2 (some .int) rm_J9_max_7cf53 [.int x0, .int x1] m (some (.int q)) m 0 0 :=
  mm_of (ini := false) (n := 0) (by decide +kernel) rfl (fun h => by first | rfl | cases h) (Nat.le_of_ble_eq_true rfl) rfl (v_J9_max_7cf53_0 hf)

set_option maxHeartbeats 4000000 in
theorem v_X8_would_0 {w : Wo} {K : Kn} {a0 : Nat} {x1 : Int32} {x2 : Int32} {x3 : Int64} {q : (Int32 × Mem)} (t_a0 : K a0 = some (.inl 7)) {m : Mem} (hf : f_X8_would K a0 x1 x2 x3 m = some q) : VV w RX8 cX8_would 6 (some .int) rm_X8_would false (QM w K (some (.int q.1)) q.2 0 0) K 0 [some (.ref a0), some (.int x1), some (.int x2), some (.long x3), none, none] [] 0 0 m := by
  unfold f_X8_would at hf
  refine vv_aload_n 1 dX8_would_0 rfl rfl ?_
  refine vv_iload_n 2 dX8_would_1 rfl rfl ?_
  obtain ⟨q1, g_q1, hf⟩ := bind_s hf
  refine vv_callV 5 (st := []) (As := [.int x1]) (stk2 := [.int q1]) (cl2 := 0) (sl2 := 0) dX8_would_2 rfl lk_RX8_81 w_469 w_0 rfl t_a0 ⟨(Nat.le_of_ble_eq_true rfl), (Nat.le_of_ble_eq_true rfl)⟩ rfl rfl ⟨(Nat.le_of_ble_eq_true rfl), (Nat.le_of_ble_eq_true rfl)⟩ rfl (Nat.le_of_ble_eq_true rfl) rfl rfl rfl rfl (c_X8_isNone t_a0 g_q1) ?_
  refine vv_if_ne 15 8 dX8_would_5 rfl (by decide) (fun c2 => ?_) (fun c2 => ?_)
  · rw [if_pos c2] at hf
    refine vv_iload_n 9 dX8_would_8 rfl rfl ?_
    obtain ⟨q3, g_q3, hf⟩ := bind_s hf
    refine vv_callS 12 (st := []) (As := [.int x2]) (stk2 := [.int q3]) (cl2 := 0) (sl2 := 0) dX8_would_9 rfl lk_RX8_84 w_472 ⟨(Nat.le_of_ble_eq_true rfl), (Nat.le_of_ble_eq_true rfl)⟩ rfl rfl ⟨(Nat.le_of_ble_eq_true rfl), (Nat.le_of_ble_eq_true rfl)⟩ rfl (Nat.le_of_ble_eq_true rfl) rfl rfl rfl rfl (c_X8_isStamp g_q3) ?_
    refine vv_if_ne 18 15 dX8_would_12 rfl (by decide) (fun c4 => ?_) (fun c4 => ?_)
    · rw [if_pos c4] at hf
      refine vv_bipush 17 (v := (-2)) dX8_would_15 rfl (by decide) ?_
      obtain rfl := Option.some.inj hf
      exact vv_iret dX8_would_17 rfl
    · rw [if_neg c4] at hf
      refine vv_aload_n 19 dX8_would_18 rfl rfl ?_
      obtain ⟨b5, g_b5, hf⟩ := bind_s hf
      have t_b5 := (ldA_spec g_b5).2
      refine gf_RX8_11 22 dX8_would_19 rfl t_a0 (ldA_spec g_b5).1 ?_
      refine vv_iload_n 23 dX8_would_22 rfl rfl ?_
      obtain ⟨b6, g_b6, hf⟩ := bind_s hf
      have t_b6 := (alO_spec g_b6).2
      refine vv_aald3 24 dX8_would_23 rfl t_b5 g_b6 ?_
      refine vv_astore 26 (L' := [some (.ref a0), some (.int x1), some (.int x2), some (.long x3), none, some (.ref b6)]) dX8_would_24 rfl (Nat.le_of_ble_eq_true rfl) rfl ?_
      refine vv_iload_n 27 dX8_would_26 rfl rfl ?_
      refine vv_aload 29 dX8_would_27 rfl rfl ?_
      refine gf_RX8_87 32 dX8_would_29 rfl t_b6 ?_
      refine vv_icmp_gt 38 35 dX8_would_32 rfl (by decide) (fun c7 => ?_) (fun c7 => ?_)
      · rw [if_pos c7] at hf
        refine vv_aload 40 dX8_would_38 rfl rfl ?_
        refine vv_iload_n 41 dX8_would_40 rfl rfl ?_
        refine vv_lload_n 42 dX8_would_41 rfl rfl ?_
        obtain ⟨q8, g_q8, hf⟩ := bind_s hf
        refine vv_callV 45 (st := []) (As := [.int x2, .long x3]) (stk2 := [.int q8.1]) (cl2 := 0) (sl2 := 0) dX8_would_42 rfl lk_RX8_105 w_480 w_481 rfl t_b6 ⟨(Nat.le_of_ble_eq_true rfl), (Nat.le_of_ble_eq_true rfl)⟩ rfl rfl ⟨(Nat.le_of_ble_eq_true rfl), (Nat.le_of_ble_eq_true rfl)⟩ rfl (Nat.le_of_ble_eq_true rfl) rfl rfl rfl rfl (c_X7_fits t_b6 g_q8) ?_
        refine vv_if_eq 59 48 dX8_would_45 rfl (by decide) (fun c9 => ?_) (fun c9 => ?_)
        · rw [if_pos c9] at hf
          refine vv_iconst 60 (v := 0) dX8_would_59 rfl (by decide) ?_
          obtain rfl := Option.some.inj hf
          exact vv_iret dX8_would_60 rfl
        · rw [if_neg c9] at hf
          refine vv_aload 50 dX8_would_48 rfl rfl ?_
          obtain ⟨b10, g_b10, hf⟩ := bind_s hf
          have t_b10 := (ldO_spec g_b10).2
          refine gf_RX8_108 53 dX8_would_50 rfl t_b6 (ldO_spec g_b10).1 ?_
          refine gf_RX8_111 56 dX8_would_53 rfl t_b10 ?_
          refine vv_goto 60 dX8_would_56 (by decide) ?_
          obtain rfl := Option.some.inj hf
          exact vv_iret dX8_would_60 rfl
      · rw [if_neg c7] at hf
        refine vv_bipush 37 (v := (-5)) dX8_would_35 rfl (by decide) ?_
        obtain rfl := Option.some.inj hf
        exact vv_iret dX8_would_37 rfl
  · rw [if_neg c2] at hf
    refine vv_bipush 17 (v := (-2)) dX8_would_15 rfl (by decide) ?_
    obtain rfl := Option.some.inj hf
    exact vv_iret dX8_would_17 rfl

theorem c_X8_would {w : Wo} {K : Kn} {a0 : Nat} {x1 : Int32} {x2 : Int32} {x3 : Int64} {q : (Int32 × Mem)} {m : Mem} (t_a0 : K a0 = some (.inl 7)) (hf : F_X8_would K m a0 x1 x2 x3 = some q) : MM w K K yX8_would cX8_would 6 (some .int) rm_X8_would [.ref a0, .int x1, .int x2, .long x3] m (some (.int q.1)) q.2 0 0 :=
  mm_of (ini := false) (n := 1) (plainFor_of_name (by decide)) rfl (fun h => by first | rfl | cases h) (Nat.le_of_ble_eq_true rfl) rfl (v_X8_would_0 t_a0 hf)

set_option maxHeartbeats 4000000 in
theorem v_X7_broken_30 {w : Wo} {K : Kn} {a0 : Nat} {q : Int32} {m : Mem} (t_a0 : K a0 = some (.inl 6)) (k4 : Int32 → Int32 → Option Int32) (hk4 : ∀ (x1 : Int32) (x2 : Int32), k4 x1 x2 = some q → VV w RX7 cX7_broken 3 (some .int) rm_X7_broken false (QM w K (some (.int q)) m 0 0) K 4 [some (.ref a0), some (.int x1), some (.int x2)] [] 0 0 m) {x1 : Int32} {x2 : Int32} (hf : f_X7_broken_30 K m a0 k4 x1 x2 = some q) : VV w RX7 cX7_broken 3 (some .int) rm_X7_broken false (QM w K (some (.int q)) m 0 0) K 30 [some (.ref a0), some (.int x1), some (.int x2)] [] 0 0 m := by
  unfold f_X7_broken_30 at hf
  obtain ⟨z1, e_z1, hf⟩ := bd_s hf
  refine vv_iincE (q := 33) (v := z1) (c := 1) (L' := [some (.ref a0), some (.int x1), some (.int z1)]) e_z1 dX7_broken_30 rfl rfl (by decide) (Nat.le_of_ble_eq_true rfl) rfl ?_
  refine vv_goto 4 dX7_broken_33 (by decide) ?_
  exact hk4 _ _ hf

set_option maxHeartbeats 4000000 in
theorem v_X7_broken_4B {w : Wo} {K : Kn} {a0 : Nat} {q : Int32} {m : Mem} (t_a0 : K a0 = some (.inl 6)) (k4 : Int32 → Int32 → Option Int32) (hk4 : ∀ (x1 : Int32) (x2 : Int32), k4 x1 x2 = some q → VV w RX7 cX7_broken 3 (some .int) rm_X7_broken false (QM w K (some (.int q)) m 0 0) K 4 [some (.ref a0), some (.int x1), some (.int x2)] [] 0 0 m) {x1 : Int32} {x2 : Int32} (hf : f_X7_broken_4B K m a0 k4 x1 x2 = some q) : VV w RX7 cX7_broken 3 (some .int) rm_X7_broken false (QM w K (some (.int q)) m 0 0) K 4 [some (.ref a0), some (.int x1), some (.int x2)] [] 0 0 m := by
  unfold f_X7_broken_4B at hf
  refine vv_iload_n 5 dX7_broken_4 rfl rfl ?_
  refine vv_aload_n 6 dX7_broken_5 rfl rfl ?_
  refine gf_RX7_45 9 dX7_broken_6 rfl t_a0 ?_
  refine vv_icmp_ge 36 12 dX7_broken_9 rfl (by decide) (fun c1 => ?_) (fun c1 => ?_)
  · rw [if_pos c1] at hf
    refine vv_iload_n 37 dX7_broken_36 rfl rfl ?_
    obtain rfl := Option.some.inj hf
    exact vv_iret dX7_broken_37 rfl
  · rw [if_neg c1] at hf
    refine vv_aload_n 13 dX7_broken_12 rfl rfl ?_
    obtain ⟨b2, g_b2, hf⟩ := bind_s hf
    have t_b2 := (ldA_spec g_b2).2
    refine gf_RX7_11 16 dX7_broken_13 rfl t_a0 (ldA_spec g_b2).1 ?_
    refine vv_iload_n 17 dX7_broken_16 rfl rfl ?_
    obtain ⟨b3, g_b3, hf⟩ := bind_s hf
    have t_b3 := (alO_spec g_b3).2
    refine vv_aald4 18 dX7_broken_17 rfl t_b2 g_b3 ?_
    refine gf_RX7_101 21 dX7_broken_18 rfl t_b3 ?_
    refine vv_if_eq 30 24 dX7_broken_21 rfl (by decide) (fun c4 => ?_) (fun c4 => ?_)
    · rw [if_pos c4] at hf
      exact v_X7_broken_30 t_a0 k4 hk4 hf
    · rw [if_neg c4] at hf
      refine vv_iload_n 25 dX7_broken_24 rfl rfl ?_
      refine vv_iconst 26 (v := 1) dX7_broken_25 rfl (by decide) ?_
      refine vv_iload_n 27 dX7_broken_26 rfl rfl ?_
      refine vv_ishl 28 dX7_broken_27 rfl ?_
      refine vv_ior 29 dX7_broken_28 rfl ?_
      obtain ⟨z5, e_z5, hf⟩ := bd_s hf
      refine vv_istore_nE (q := 30) (v := z5) (L' := [some (.ref a0), some (.int z5), some (.int x2)]) e_z5 dX7_broken_29 rfl (Nat.le_of_ble_eq_true rfl) rfl ?_
      exact v_X7_broken_30 t_a0 k4 hk4 hf

theorem v_X7_broken_4 {w : Wo} {K : Kn} {a0 : Nat} {q : Int32} {m : Mem} (t_a0 : K a0 = some (.inl 6)) : ∀ (n : Nat) (x1 : Int32) (x2 : Int32), f_X7_broken_4 K m a0 n x1 x2 = some q → VV w RX7 cX7_broken 3 (some .int) rm_X7_broken false (QM w K (some (.int q)) m 0 0) K 4 [some (.ref a0), some (.int x1), some (.int x2)] [] 0 0 m := by
  intro n
  induction n with
  | zero => intro x1 x2 hf; cases hf
  | succ n ih => intro x1 x2 hf; exact v_X7_broken_4B (a0 := a0) t_a0 (f_X7_broken_4 K m a0 n) ih hf

set_option maxHeartbeats 4000000 in
theorem v_X7_broken_0 {w : Wo} {K : Kn} {a0 : Nat} {q : Int32} {m : Mem} (t_a0 : K a0 = some (.inl 6)) (hf : f_X7_broken K m a0 = some q) : VV w RX7 cX7_broken 3 (some .int) rm_X7_broken false (QM w K (some (.int q)) m 0 0) K 0 [some (.ref a0), none, none] [] 0 0 m := by
  unfold f_X7_broken at hf
  refine vv_iconst 1 (v := 0) dX7_broken_0 rfl (by decide) ?_
  refine vv_istore_n 2 (L' := [some (.ref a0), some (.int (0 : Int32)), none]) dX7_broken_1 rfl (Nat.le_of_ble_eq_true rfl) rfl ?_
  refine vv_iconst 3 (v := 0) dX7_broken_2 rfl (by decide) ?_
  refine vv_istore_n 4 (L' := [some (.ref a0), some (.int (0 : Int32)), some (.int (0 : Int32))]) dX7_broken_3 rfl (Nat.le_of_ble_eq_true rfl) rfl ?_
  exact v_X7_broken_4 t_a0 FU _ _ hf

theorem c_X7_broken {w : Wo} {K : Kn} {a0 : Nat} {q : Int32} {m : Mem} (t_a0 : K a0 = some (.inl 6)) (hf : F_X7_broken K m a0 = some q) : MM w K K yX7_broken cX7_broken 3 (some .int) rm_X7_broken [.ref a0] m (some (.int q)) m 0 0 :=
  mm_of (ini := false) (n := 2) (plainFor_of_name (by decide)) rfl (fun h => by first | rfl | cases h) (Nat.le_of_ble_eq_true rfl) rfl (v_X7_broken_0 t_a0 hf)

set_option maxHeartbeats 4000000 in
theorem v_X0_touches_27 {w : Wo} {K : Kn} {a0 : Nat} {x1 : Int32} {x2 : Int32} {q : Int32} {m : Mem} (t_a0 : K a0 = some (.inl 0)) (hf : f_X0_touches_27 K m a0 x1 x2 = some q) : VV w RX0 cX0_touches 3 (some .boolean) rm_X0_touches false (QM w K (some (.int q)) m 0 0) K 27 [none, none, none] [] 0 0 m := by
  unfold f_X0_touches_27 at hf
  refine vv_iconst 28 (v := 0) dX0_touches_27 rfl (by decide) ?_
  obtain rfl := Option.some.inj hf
  exact vv_zret dX0_touches_28 rfl (Or.inl rfl)

set_option maxHeartbeats 4000000 in
theorem v_X0_touches_0 {w : Wo} {K : Kn} {a0 : Nat} {x1 : Int32} {x2 : Int32} {q : Int32} {m : Mem} (t_a0 : K a0 = some (.inl 0)) (hf : f_X0_touches K m a0 x1 x2 = some q) : VV w RX0 cX0_touches 3 (some .boolean) rm_X0_touches false (QM w K (some (.int q)) m 0 0) K 0 [some (.ref a0), some (.int x1), some (.int x2)] [] 0 0 m := by
  unfold f_X0_touches at hf
  refine vv_aload_n 1 dX0_touches_0 rfl rfl ?_
  refine gf_RX0_46 4 dX0_touches_1 rfl t_a0 ?_
  refine vv_if_ne 27 7 dX0_touches_4 rfl (by decide) (fun c1 => ?_) (fun c1 => ?_)
  · rw [if_pos c1] at hf
    refine vv_aload_n 8 dX0_touches_7 rfl rfl ?_
    refine gf_RX0_36 11 dX0_touches_8 rfl t_a0 ?_
    refine vv_iload_n 12 dX0_touches_11 rfl rfl ?_
    refine vv_icmp_gt 27 15 dX0_touches_12 rfl (by decide) (fun c2 => ?_) (fun c2 => ?_)
    · rw [if_pos c2] at hf
      exact VV.lle (v_X0_touches_27 t_a0 hf) (lle_n (lle_n (lle_n lle_nil)))
    · rw [if_neg c2] at hf
      refine vv_aload_n 16 dX0_touches_15 rfl rfl ?_
      refine gf_RX0_39 19 dX0_touches_16 rfl t_a0 ?_
      refine vv_iload_n 20 dX0_touches_19 rfl rfl ?_
      refine vv_icmp_lt 27 23 dX0_touches_20 rfl (by decide) (fun c3 => ?_) (fun c3 => ?_)
      · rw [if_pos c3] at hf
        exact VV.lle (v_X0_touches_27 t_a0 hf) (lle_n (lle_n (lle_n lle_nil)))
      · rw [if_neg c3] at hf
        refine vv_iconst 24 (v := 1) dX0_touches_23 rfl (by decide) ?_
        refine vv_goto 28 dX0_touches_24 (by decide) ?_
        obtain rfl := Option.some.inj hf
        exact vv_zret dX0_touches_28 rfl (Or.inr rfl)
  · rw [if_neg c1] at hf
    exact VV.lle (v_X0_touches_27 t_a0 hf) (lle_n (lle_n (lle_n lle_nil)))

theorem c_X0_touches {w : Wo} {K : Kn} {a0 : Nat} {x1 : Int32} {x2 : Int32} {q : Int32} {m : Mem} (t_a0 : K a0 = some (.inl 0)) (hf : F_X0_touches K m a0 x1 x2 = some q) : MM w K K yX0_touches cX0_touches 3 (some .boolean) rm_X0_touches [.ref a0, .int x1, .int x2] m (some (.int q)) m 0 0 :=
  mm_of (ini := false) (n := 0) (plainFor_of_name (by decide)) rfl (fun h => by first | rfl | cases h) (Nat.le_of_ble_eq_true rfl) rfl (v_X0_touches_0 t_a0 hf)

set_option maxHeartbeats 4000000 in
theorem v_X6_takeBits_56 {w : Wo} {K : Kn} {a0 : Nat} {x1 : Int32} {q : (Int64 × Mem)} (t_a0 : K a0 = some (.inl 5)) (k25 : Mem → Int64 → Int32 → Option (Int64 × Mem)) (hk25 : ∀ (m : Mem) (x2 : Int64) (x4 : Int32), k25 m x2 x4 = some q → VV w RX6 cX6_takeBits 8 (some .long) rm_X6_takeBits false (QM w K (some (.long q.1)) q.2 0 0) K 25 [some (.ref a0), none, some (.long x2), none, some (.int x4), none, none, none] [] 0 0 m) {m : Mem} {x2 : Int64} {x4 : Int32} {x5 : Int32} {s0 : Int32} (hf : f_X6_takeBits_56 K a0 x1 k25 m x2 x4 x5 s0 = some q) : VV w RX6 cX6_takeBits 8 (some .long) rm_X6_takeBits false (QM w K (some (.long q.1)) q.2 0 0) K 56 [some (.ref a0), none, some (.long x2), none, some (.int x4), some (.int x5), none, none] [.int s0] 0 0 m := by
  unfold f_X6_takeBits_56 at hf
  refine vv_istore 58 (L' := [some (.ref a0), none, some (.long x2), none, some (.int x4), some (.int x5), some (.int s0), none]) dX6_takeBits_56 rfl (Nat.le_of_ble_eq_true rfl) rfl ?_
  refine vv_aload_n 59 dX6_takeBits_58 rfl rfl ?_
  obtain ⟨b1, g_b1, hf⟩ := bind_s hf
  have t_b1 := (ldA_spec g_b1).2
  refine gf_RX6_24 62 dX6_takeBits_59 rfl t_a0 (ldA_spec g_b1).1 ?_
  refine vv_aload_n 63 dX6_takeBits_62 rfl rfl ?_
  refine gf_RX6_36 66 dX6_takeBits_63 rfl t_a0 ?_
  refine vv_iconst 67 (v := 3) dX6_takeBits_66 rfl (by decide) ?_
  refine vv_ishr 68 dX6_takeBits_67 rfl ?_
  obtain ⟨r2, g_r2, hf⟩ := bind_s hf
  refine vv_iald 69 dX6_takeBits_68 rfl t_b1 g_r2 ?_
  refine vv_iload 71 dX6_takeBits_69 rfl rfl ?_
  refine vv_iload 73 dX6_takeBits_71 rfl rfl ?_
  refine vv_isub 74 dX6_takeBits_73 rfl ?_
  refine vv_ishr 75 dX6_takeBits_74 rfl ?_
  refine vv_iconst 76 (v := 1) dX6_takeBits_75 rfl (by decide) ?_
  refine vv_iload 78 dX6_takeBits_76 rfl rfl ?_
  refine vv_ishl 79 dX6_takeBits_78 rfl ?_
  refine vv_iconst 80 (v := 1) dX6_takeBits_79 rfl (by decide) ?_
  refine vv_isub 81 dX6_takeBits_80 rfl ?_
  refine vv_iand 82 dX6_takeBits_81 rfl ?_
  obtain ⟨z3, e_z3, hf⟩ := bd_s hf
  refine vv_istoreE (q := 84) (v := z3) (L' := [some (.ref a0), none, some (.long x2), none, some (.int x4), some (.int x5), some (.int s0), some (.int z3)]) e_z3 dX6_takeBits_82 rfl (Nat.le_of_ble_eq_true rfl) rfl ?_
  refine vv_lload_n 85 dX6_takeBits_84 rfl rfl ?_
  refine vv_iload 87 dX6_takeBits_85 rfl rfl ?_
  refine vv_lshl 88 dX6_takeBits_87 rfl ?_
  refine vv_iload 90 dX6_takeBits_88 rfl rfl ?_
  refine vv_i2l 91 dX6_takeBits_90 rfl ?_
  refine vv_lor 92 dX6_takeBits_91 rfl ?_
  obtain ⟨z4, e_z4, hf⟩ := bd_s hf
  refine vv_lstore_nE (q := 93) (v := z4) (L' := [some (.ref a0), none, some (.long z4), none, some (.int x4), some (.int x5), some (.int s0), some (.int z3)]) e_z4 dX6_takeBits_92 rfl (Nat.le_of_ble_eq_true rfl) rfl ?_
  refine vv_aload_n 94 dX6_takeBits_93 rfl rfl ?_
  refine vv_dup 95 dX6_takeBits_94 rfl rfl ?_
  refine gf_RX6_36 98 dX6_takeBits_95 rfl t_a0 ?_
  refine vv_iload 100 dX6_takeBits_98 rfl rfl ?_
  refine vv_iadd 101 dX6_takeBits_100 rfl ?_
  obtain ⟨m5, e_m5, hf⟩ := bd_s hf
  refine pf_RX6_36 104 dX6_takeBits_101 rfl t_a0 e_m5 ?_
  refine vv_iload 106 dX6_takeBits_104 rfl rfl ?_
  refine vv_iload 108 dX6_takeBits_106 rfl rfl ?_
  refine vv_isub 109 dX6_takeBits_108 rfl ?_
  obtain ⟨z6, e_z6, hf⟩ := bd_s hf
  refine vv_istoreE (q := 111) (v := z6) (L' := [some (.ref a0), none, some (.long z4), none, some (.int z6), some (.int x5), some (.int s0), some (.int z3)]) e_z6 dX6_takeBits_109 rfl (Nat.le_of_ble_eq_true rfl) rfl ?_
  refine vv_goto 25 dX6_takeBits_111 (by decide) ?_
  exact VV.lle (hk25 _ _ _ hf) (lle_s (lle_s (lle_s (lle_s (lle_s (lle_n (lle_n (lle_n lle_nil))))))))

set_option maxHeartbeats 4000000 in
theorem v_X6_takeBits_25B {w : Wo} {K : Kn} {a0 : Nat} {x1 : Int32} {q : (Int64 × Mem)} (t_a0 : K a0 = some (.inl 5)) (k25 : Mem → Int64 → Int32 → Option (Int64 × Mem)) (hk25 : ∀ (m : Mem) (x2 : Int64) (x4 : Int32), k25 m x2 x4 = some q → VV w RX6 cX6_takeBits 8 (some .long) rm_X6_takeBits false (QM w K (some (.long q.1)) q.2 0 0) K 25 [some (.ref a0), none, some (.long x2), none, some (.int x4), none, none, none] [] 0 0 m) {m : Mem} {x2 : Int64} {x4 : Int32} (hf : f_X6_takeBits_25B K a0 x1 k25 m x2 x4 = some q) : VV w RX6 cX6_takeBits 8 (some .long) rm_X6_takeBits false (QM w K (some (.long q.1)) q.2 0 0) K 25 [some (.ref a0), none, some (.long x2), none, some (.int x4), none, none, none] [] 0 0 m := by
  unfold f_X6_takeBits_25B at hf
  refine vv_iload 27 dX6_takeBits_25 rfl rfl ?_
  refine vv_if_le 114 30 dX6_takeBits_27 rfl (by decide) (fun c1 => ?_) (fun c1 => ?_)
  · rw [if_pos c1] at hf
    refine vv_lload_n 115 dX6_takeBits_114 rfl rfl ?_
    obtain rfl := Option.some.inj hf
    exact vv_lret dX6_takeBits_115 rfl
  · rw [if_neg c1] at hf
    refine vv_bipush 32 (v := 8) dX6_takeBits_30 rfl (by decide) ?_
    refine vv_aload_n 33 dX6_takeBits_32 rfl rfl ?_
    refine gf_RX6_36 36 dX6_takeBits_33 rfl t_a0 ?_
    refine vv_bipush 38 (v := 7) dX6_takeBits_36 rfl (by decide) ?_
    refine vv_iand 39 dX6_takeBits_38 rfl ?_
    refine vv_isub 40 dX6_takeBits_39 rfl ?_
    obtain ⟨z2, e_z2, hf⟩ := bd_s hf
    refine vv_istoreE (q := 42) (v := z2) (L' := [some (.ref a0), none, some (.long x2), none, some (.int x4), some (.int z2), none, none]) e_z2 dX6_takeBits_40 rfl (Nat.le_of_ble_eq_true rfl) rfl ?_
    refine vv_iload 44 dX6_takeBits_42 rfl rfl ?_
    refine vv_iload 46 dX6_takeBits_44 rfl rfl ?_
    refine vv_icmp_ge 54 49 dX6_takeBits_46 rfl (by decide) (fun c3 => ?_) (fun c3 => ?_)
    · rw [if_pos c3] at hf
      refine vv_iload 56 dX6_takeBits_54 rfl rfl ?_
      exact v_X6_takeBits_56 t_a0 k25 hk25 hf
    · rw [if_neg c3] at hf
      refine vv_iload 51 dX6_takeBits_49 rfl rfl ?_
      refine vv_goto 56 dX6_takeBits_51 (by decide) ?_
      exact v_X6_takeBits_56 t_a0 k25 hk25 hf

theorem v_X6_takeBits_25 {w : Wo} {K : Kn} {a0 : Nat} {x1 : Int32} {q : (Int64 × Mem)} (t_a0 : K a0 = some (.inl 5)) : ∀ (n : Nat) (m : Mem) (x2 : Int64) (x4 : Int32), f_X6_takeBits_25 K a0 x1 n m x2 x4 = some q → VV w RX6 cX6_takeBits 8 (some .long) rm_X6_takeBits false (QM w K (some (.long q.1)) q.2 0 0) K 25 [some (.ref a0), none, some (.long x2), none, some (.int x4), none, none, none] [] 0 0 m := by
  intro n
  induction n with
  | zero => intro m x2 x4 hf; cases hf
  | succ n ih => intro m x2 x4 hf; exact v_X6_takeBits_25B (a0 := a0) (x1 := x1) t_a0 (f_X6_takeBits_25 K a0 x1 n) ih hf

set_option maxHeartbeats 4000000 in
theorem v_X6_takeBits_0 {w : Wo} {K : Kn} {a0 : Nat} {x1 : Int32} {q : (Int64 × Mem)} (t_a0 : K a0 = some (.inl 5)) {m : Mem} (hf : f_X6_takeBits K a0 x1 m = some q) : VV w RX6 cX6_takeBits 8 (some .long) rm_X6_takeBits false (QM w K (some (.long q.1)) q.2 0 0) K 0 [some (.ref a0), some (.int x1), none, none, none, none, none, none] [] 0 0 m := by
  unfold f_X6_takeBits at hf
  refine vv_iload_n 1 dX6_takeBits_0 rfl rfl ?_
  refine vv_aload_n 2 dX6_takeBits_1 rfl rfl ?_
  refine gf_RX6_33 5 dX6_takeBits_2 rfl t_a0 ?_
  refine vv_aload_n 6 dX6_takeBits_5 rfl rfl ?_
  refine gf_RX6_36 9 dX6_takeBits_6 rfl t_a0 ?_
  refine vv_isub 10 dX6_takeBits_9 rfl ?_
  refine vv_icmp_le 20 13 dX6_takeBits_10 rfl (by decide) (fun c1 => ?_) (fun c1 => ?_)
  · rw [if_pos c1] at hf
    refine vv_lconst 21 (v := 0) dX6_takeBits_20 rfl (by decide) ?_
    refine vv_lstore_n 22 (L' := [some (.ref a0), some (.int x1), some (.long (0 : Int64)), none, none, none, none, none]) dX6_takeBits_21 rfl (Nat.le_of_ble_eq_true rfl) rfl ?_
    refine vv_iload_n 23 dX6_takeBits_22 rfl rfl ?_
    refine vv_istore 25 (L' := [some (.ref a0), some (.int x1), some (.long (0 : Int64)), none, some (.int x1), none, none, none]) dX6_takeBits_23 rfl (Nat.le_of_ble_eq_true rfl) rfl ?_
    exact VV.lle (v_X6_takeBits_25 t_a0 FU _ _ _ hf) (lle_s (lle_n (lle_s (lle_s (lle_s (lle_s (lle_s (lle_s lle_nil))))))))
  · rw [if_neg c1] at hf
    refine vv_aload_n 14 dX6_takeBits_13 rfl rfl ?_
    refine vv_iconst 15 (v := 1) dX6_takeBits_14 rfl (by decide) ?_
    obtain ⟨m2, e_m2, hf⟩ := bd_s hf
    refine pf_RX6_39 18 dX6_takeBits_15 rfl t_a0 (by decide) e_m2 ?_
    refine vv_lconst 19 (v := 0) dX6_takeBits_18 rfl (by decide) ?_
    obtain rfl := Option.some.inj hf
    exact vv_lret dX6_takeBits_19 rfl

theorem c_X6_takeBits {w : Wo} {K : Kn} {a0 : Nat} {x1 : Int32} {q : (Int64 × Mem)} {m : Mem} (t_a0 : K a0 = some (.inl 5)) (hf : F_X6_takeBits K m a0 x1 = some q) : MM w K K yX6_takeBits cX6_takeBits 8 (some .long) rm_X6_takeBits [.ref a0, .int x1] m (some (.long q.1)) q.2 0 0 :=
  mm_of (ini := false) (n := 6) (plainFor_of_name (by decide)) rfl (fun h => by first | rfl | cases h) (Nat.le_of_ble_eq_true rfl) rfl (v_X6_takeBits_0 t_a0 hf)

set_option maxHeartbeats 4000000 in
theorem v_X6_open_29 {w : Wo} {K : Kn} {a0 : Nat} {a1 : Nat} {q : Mem} (t_a0 : K a0 = some (.inl 5)) (t_a1 : K a1 = some (.inl 0)) {m : Mem} {sa0 : Nat} {s1 : Int32} (t_sa0 : K sa0 = some (.inl 5)) (hf : f_X6_open_29 K a0 a1 m sa0 s1 = some q) : VV w RX6 cX6_open 4 none rm_X6_open false (QM w K none q 0 0) K 29 [some (.ref a0), none, none, none] [.int s1, .ref sa0] 0 0 m := by
  unfold f_X6_open_29 at hf
  refine vv_bipush 31 (v := 8) dX6_open_29 rfl (by decide) ?_
  refine vv_imul 32 dX6_open_31 rfl ?_
  obtain ⟨m1, e_m1, hf⟩ := bd_s hf
  refine pf_RX6_33 35 dX6_open_32 rfl t_sa0 e_m1 ?_
  refine vv_aload_n 36 dX6_open_35 rfl rfl ?_
  refine vv_iconst 37 (v := 0) dX6_open_36 rfl (by decide) ?_
  obtain ⟨m2, e_m2, hf⟩ := bd_s hf
  refine pf_RX6_36 40 dX6_open_37 rfl t_a0 e_m2 ?_
  refine vv_aload_n 41 dX6_open_40 rfl rfl ?_
  refine vv_iconst 42 (v := 0) dX6_open_41 rfl (by decide) ?_
  obtain ⟨m3, e_m3, hf⟩ := bd_s hf
  refine pf_RX6_39 45 dX6_open_42 rfl t_a0 (by decide) e_m3 ?_
  refine vv_aload_n 46 dX6_open_45 rfl rfl ?_
  refine vv_aload_n 47 dX6_open_46 rfl rfl ?_
  refine vv_bipush 49 (v := 32) dX6_open_47 rfl (by decide) ?_
  obtain ⟨q4, g_q4, hf⟩ := bind_s hf
  refine vv_callV 52 (st := [.ref a0]) (As := [.int (32 : Int32)]) (stk2 := [.long q4.1, .ref a0]) (cl2 := 0) (sl2 := 0) dX6_open_49 rfl lk_RX6_42 w_633 w_6 rfl t_a0 ⟨(Nat.le_of_ble_eq_true rfl), (Nat.le_of_ble_eq_true rfl)⟩ rfl rfl ⟨(Nat.le_of_ble_eq_true rfl), (Nat.le_of_ble_eq_true rfl)⟩ rfl (Nat.le_of_ble_eq_true rfl) rfl rfl rfl rfl (c_X6_takeBits t_a0 g_q4) ?_
  refine vv_l2i 53 dX6_open_52 rfl ?_
  obtain ⟨m5, e_m5, hf⟩ := bd_s hf
  refine pf_RX6_46 56 dX6_open_53 rfl t_a0 e_m5 ?_
  refine vv_aload_n 57 dX6_open_56 rfl rfl ?_
  refine vv_bipush 59 (v := 64) dX6_open_57 rfl (by decide) ?_
  obtain ⟨q6, g_q6, hf⟩ := bind_s hf
  refine vv_callV 62 (st := []) (As := [.int (64 : Int32)]) (stk2 := [.long q6.1]) (cl2 := 0) (sl2 := 0) dX6_open_59 rfl lk_RX6_42 w_633 w_6 rfl t_a0 ⟨(Nat.le_of_ble_eq_true rfl), (Nat.le_of_ble_eq_true rfl)⟩ rfl rfl ⟨(Nat.le_of_ble_eq_true rfl), (Nat.le_of_ble_eq_true rfl)⟩ rfl (Nat.le_of_ble_eq_true rfl) rfl rfl rfl rfl (c_X6_takeBits t_a0 g_q6) ?_
  obtain ⟨z7, e_z7, hf⟩ := bd_s hf
  refine vv_lstore_nE (q := 63) (v := z7) (L' := [some (.ref a0), none, some (.long z7), none]) e_z7 dX6_open_62 rfl (Nat.le_of_ble_eq_true rfl) rfl ?_
  refine vv_aload_n 64 dX6_open_63 rfl rfl ?_
  refine vv_aload_n 65 dX6_open_64 rfl rfl ?_
  refine vv_bipush 67 (v := 16) dX6_open_65 rfl (by decide) ?_
  obtain ⟨q8, g_q8, hf⟩ := bind_s hf
  refine vv_callV 70 (st := [.ref a0]) (As := [.int (16 : Int32)]) (stk2 := [.long q8.1, .ref a0]) (cl2 := 0) (sl2 := 0) dX6_open_67 rfl lk_RX6_42 w_633 w_6 rfl t_a0 ⟨(Nat.le_of_ble_eq_true rfl), (Nat.le_of_ble_eq_true rfl)⟩ rfl rfl ⟨(Nat.le_of_ble_eq_true rfl), (Nat.le_of_ble_eq_true rfl)⟩ rfl (Nat.le_of_ble_eq_true rfl) rfl rfl rfl rfl (c_X6_takeBits t_a0 g_q8) ?_
  refine vv_l2i 71 dX6_open_70 rfl ?_
  obtain ⟨m9, e_m9, hf⟩ := bd_s hf
  refine pf_RX6_49 74 dX6_open_71 rfl t_a0 e_m9 ?_
  refine vv_aload_n 75 dX6_open_74 rfl rfl ?_
  obtain ⟨b10, g_b10, hf⟩ := bind_s hf
  have t_b10 := (ldO_spec g_b10).2
  refine gf_RX6_12 78 dX6_open_75 rfl t_a0 (ldO_spec g_b10).1 ?_
  refine vv_aload_n 79 dX6_open_78 rfl rfl ?_
  refine gf_RX6_46 82 dX6_open_79 rfl t_a0 ?_
  refine vv_lload_n 83 dX6_open_82 rfl rfl ?_
  obtain ⟨q11, g_q11, hf⟩ := bind_s hf
  refine vv_callV 86 (st := []) (As := [.int (gI m9 a0 1), .long z7]) (stk2 := []) (cl2 := 0) (sl2 := 0) dX6_open_83 rfl lk_RX6_52 w_563 w_564 rfl t_b10 ⟨(Nat.le_of_ble_eq_true rfl), (Nat.le_of_ble_eq_true rfl)⟩ rfl rfl ⟨(Nat.le_of_ble_eq_true rfl), (Nat.le_of_ble_eq_true rfl)⟩ rfl (Nat.le_of_ble_eq_true rfl) rfl rfl rfl rfl (c_X1_begin t_b10 g_q11) ?_
  obtain rfl := Option.some.inj hf
  exact vv_vret dX6_open_86 rfl

set_option maxHeartbeats 4000000 in
theorem v_X6_open_0 {w : Wo} {K : Kn} {a0 : Nat} {a1 : Nat} {q : Mem} (t_a0 : K a0 = some (.inl 5)) (t_a1 : K a1 = some (.inl 0)) {m : Mem} (hf : f_X6_open K a0 a1 m = some q) : VV w RX6 cX6_open 4 none rm_X6_open false (QM w K none q 0 0) K 0 [some (.ref a0), some (.ref a1), none, none] [] 0 0 m := by
  unfold f_X6_open at hf
  refine vv_aload_n 1 dX6_open_0 rfl rfl ?_
  refine vv_aload_n 2 dX6_open_1 rfl rfl ?_
  obtain ⟨b1, g_b1, hf⟩ := bind_s hf
  have t_b1 := (ldA_spec g_b1).2
  refine gf_RX6_18 5 dX6_open_2 rfl t_a1 (ldA_spec g_b1).1 ?_
  obtain ⟨m2, e_m2, hf⟩ := bd_s hf
  refine pf_RX6_24 8 dX6_open_5 rfl t_a0 e_m2 ?_
  refine vv_aload_n 9 dX6_open_8 rfl rfl ?_
  refine vv_aload_n 10 dX6_open_9 rfl rfl ?_
  refine gf_RX6_25 13 dX6_open_10 rfl t_a1 ?_
  refine vv_if_eq 25 16 dX6_open_13 rfl (by decide) (fun c3 => ?_) (fun c3 => ?_)
  · rw [if_pos c3] at hf
    refine vv_aload_n 26 dX6_open_25 rfl rfl ?_
    refine gf_RX6_29 29 dX6_open_26 rfl t_a1 ?_
    exact VV.lle (v_X6_open_29 t_a0 t_a1 t_a0 hf) (lle_s (lle_n (lle_s (lle_s lle_nil))))
  · rw [if_neg c3] at hf
    refine vv_aload_n 17 dX6_open_16 rfl rfl ?_
    refine gf_RX6_29 20 dX6_open_17 rfl t_a1 ?_
    refine vv_iconst 21 (v := 1) dX6_open_20 rfl (by decide) ?_
    refine vv_isub 22 dX6_open_21 rfl ?_
    refine vv_goto 29 dX6_open_22 (by decide) ?_
    exact VV.lle (v_X6_open_29 t_a0 t_a1 t_a0 hf) (lle_s (lle_n (lle_s (lle_s lle_nil))))

theorem c_X6_open {w : Wo} {K : Kn} {a0 : Nat} {a1 : Nat} {q : Mem} {m : Mem} (t_a0 : K a0 = some (.inl 5)) (t_a1 : K a1 = some (.inl 0)) (hf : F_X6_open K m a0 a1 = some q) : MM w K K yX6_open cX6_open 4 none rm_X6_open [.ref a0, .ref a1] m none q 0 0 :=
  mm_of (ini := false) (n := 2) (plainFor_of_name (by decide)) rfl (fun h => by first | rfl | cases h) (Nat.le_of_ble_eq_true rfl) rfl (v_X6_open_0 t_a0 t_a1 hf)

set_option maxHeartbeats 4000000 in
theorem v_X6_takeKind_23 {w : Wo} {K : Kn} {a0 : Nat} {q : (Int32 × Mem)} (t_a0 : K a0 = some (.inl 5)) {m : Mem} {x1 : Int32} (hf : f_X6_takeKind_23 K a0 m x1 = some q) : VV w RX6 cX6_takeKind 2 (some .int) rm_X6_takeKind false (QM w K (some (.int q.1)) q.2 0 0) K 23 [none, some (.int x1)] [] 0 0 m := by
  unfold f_X6_takeKind_23 at hf
  refine vv_iload_n 24 dX6_takeKind_23 rfl rfl ?_
  obtain rfl := Option.some.inj hf
  exact vv_iret dX6_takeKind_24 rfl

set_option maxHeartbeats 4000000 in
theorem v_X6_takeKind_2B {w : Wo} {K : Kn} {a0 : Nat} {q : (Int32 × Mem)} (t_a0 : K a0 = some (.inl 5)) (k2 : Mem → Int32 → Option (Int32 × Mem)) (hk2 : ∀ (m : Mem) (x1 : Int32), k2 m x1 = some q → VV w RX6 cX6_takeKind 2 (some .int) rm_X6_takeKind false (QM w K (some (.int q.1)) q.2 0 0) K 2 [some (.ref a0), some (.int x1)] [] 0 0 m) {m : Mem} {x1 : Int32} (hf : f_X6_takeKind_2B K a0 k2 m x1 = some q) : VV w RX6 cX6_takeKind 2 (some .int) rm_X6_takeKind false (QM w K (some (.int q.1)) q.2 0 0) K 2 [some (.ref a0), some (.int x1)] [] 0 0 m := by
  unfold f_X6_takeKind_2B at hf
  refine vv_iload_n 3 dX6_takeKind_2 rfl rfl ?_
  refine vv_iconst 4 (v := 4) dX6_takeKind_3 rfl (by decide) ?_
  refine vv_icmp_ge 23 7 dX6_takeKind_4 rfl (by decide) (fun c1 => ?_) (fun c1 => ?_)
  · rw [if_pos c1] at hf
    exact VV.lle (v_X6_takeKind_23 t_a0 hf) (lle_n (lle_s lle_nil))
  · rw [if_neg c1] at hf
    refine vv_aload_n 8 dX6_takeKind_7 rfl rfl ?_
    refine vv_iconst 9 (v := 1) dX6_takeKind_8 rfl (by decide) ?_
    obtain ⟨q2, g_q2, hf⟩ := bind_s hf
    refine vv_callV 12 (st := []) (As := [.int (1 : Int32)]) (stk2 := [.long q2.1]) (cl2 := 0) (sl2 := 0) dX6_takeKind_9 rfl lk_RX6_42 w_633 w_6 rfl t_a0 ⟨(Nat.le_of_ble_eq_true rfl), (Nat.le_of_ble_eq_true rfl)⟩ rfl rfl ⟨(Nat.le_of_ble_eq_true rfl), (Nat.le_of_ble_eq_true rfl)⟩ rfl (Nat.le_of_ble_eq_true rfl) rfl rfl rfl rfl (c_X6_takeBits t_a0 g_q2) ?_
    refine vv_lconst 13 (v := 1) dX6_takeKind_12 rfl (by decide) ?_
    refine vv_lcmp 14 dX6_takeKind_13 rfl ?_
    refine vv_if_ne 23 17 dX6_takeKind_14 rfl (by decide) (fun c3 => ?_) (fun c3 => ?_)
    · rw [if_pos c3] at hf
      obtain ⟨z4, e_z4, hf⟩ := bd_s hf
      refine vv_iincE (q := 20) (v := z4) (c := 1) (L' := [some (.ref a0), some (.int z4)]) e_z4 dX6_takeKind_17 rfl rfl (by decide) (Nat.le_of_ble_eq_true rfl) rfl ?_
      refine vv_goto 2 dX6_takeKind_20 (by decide) ?_
      exact hk2 _ _ hf
    · rw [if_neg c3] at hf
      exact VV.lle (v_X6_takeKind_23 t_a0 hf) (lle_n (lle_s lle_nil))

theorem v_X6_takeKind_2 {w : Wo} {K : Kn} {a0 : Nat} {q : (Int32 × Mem)} (t_a0 : K a0 = some (.inl 5)) : ∀ (n : Nat) (m : Mem) (x1 : Int32), f_X6_takeKind_2 K a0 n m x1 = some q → VV w RX6 cX6_takeKind 2 (some .int) rm_X6_takeKind false (QM w K (some (.int q.1)) q.2 0 0) K 2 [some (.ref a0), some (.int x1)] [] 0 0 m := by
  intro n
  induction n with
  | zero => intro m x1 hf; cases hf
  | succ n ih => intro m x1 hf; exact v_X6_takeKind_2B (a0 := a0) t_a0 (f_X6_takeKind_2 K a0 n) ih hf

set_option maxHeartbeats 4000000 in
theorem v_X6_takeKind_0 {w : Wo} {K : Kn} {a0 : Nat} {q : (Int32 × Mem)} (t_a0 : K a0 = some (.inl 5)) {m : Mem} (hf : f_X6_takeKind K a0 m = some q) : VV w RX6 cX6_takeKind 2 (some .int) rm_X6_takeKind false (QM w K (some (.int q.1)) q.2 0 0) K 0 [some (.ref a0), none] [] 0 0 m := by
  unfold f_X6_takeKind at hf
  refine vv_iconst 1 (v := 0) dX6_takeKind_0 rfl (by decide) ?_
  refine vv_istore_n 2 (L' := [some (.ref a0), some (.int (0 : Int32))]) dX6_takeKind_1 rfl (Nat.le_of_ble_eq_true rfl) rfl ?_
  exact v_X6_takeKind_2 t_a0 FU _ _ hf

theorem c_X6_takeKind {w : Wo} {K : Kn} {a0 : Nat} {q : (Int32 × Mem)} {m : Mem} (t_a0 : K a0 = some (.inl 5)) (hf : F_X6_takeKind K m a0 = some q) : MM w K K yX6_takeKind cX6_takeKind 2 (some .int) rm_X6_takeKind [.ref a0] m (some (.int q.1)) q.2 0 0 :=
  mm_of (ini := false) (n := 1) (plainFor_of_name (by decide)) rfl (fun h => by first | rfl | cases h) (Nat.le_of_ble_eq_true rfl) rfl (v_X6_takeKind_0 t_a0 hf)

set_option maxHeartbeats 4000000 in
theorem v_X6_takeSecond_0 {w : Wo} {K : Kn} {a0 : Nat} {x1 : Int32} {q : (Int64 × Mem)} (t_a0 : K a0 = some (.inl 5)) {m : Mem} (hf : f_X6_takeSecond K a0 x1 m = some q) : VV w RX6 cX6_takeSecond 5 (some .long) rm_X6_takeSecond false (QM w K (some (.long q.1)) q.2 0 0) K 0 [some (.ref a0), some (.int x1), none, none, none] [] 0 0 m := by
  unfold f_X6_takeSecond at hf
  refine vv_gets 3 2 dX6_takeSecond_0 rfl (by decide) (by decide) ?_
  refine vv_iload_n 4 dX6_takeSecond_3 rfl rfl ?_
  obtain ⟨r1, g_r1, hf⟩ := bind_s hf
  refine vv_sald 5 2 dX6_takeSecond_4 rfl (by decide) g_r1 ?_
  refine vv_istore_n 6 (L' := [some (.ref a0), some (.int x1), some (.int r1), none, none]) dX6_takeSecond_5 rfl (Nat.le_of_ble_eq_true rfl) rfl ?_
  refine vv_iload_n 7 dX6_takeSecond_6 rfl rfl ?_
  refine vv_if_ne 12 10 dX6_takeSecond_7 rfl (by decide) (fun c2 => ?_) (fun c2 => ?_)
  · rw [if_pos c2] at hf
    refine vv_lconst 11 (v := 0) dX6_takeSecond_10 rfl (by decide) ?_
    obtain rfl := Option.some.inj hf
    exact vv_lret dX6_takeSecond_11 rfl
  · rw [if_neg c2] at hf
    refine vv_aload_n 13 dX6_takeSecond_12 rfl rfl ?_
    refine vv_iload_n 14 dX6_takeSecond_13 rfl rfl ?_
    obtain ⟨q3, g_q3, hf⟩ := bind_s hf
    refine vv_callV 17 (st := []) (As := [.int r1]) (stk2 := [.long q3.1]) (cl2 := 0) (sl2 := 0) dX6_takeSecond_14 rfl lk_RX6_42 w_633 w_6 rfl t_a0 ⟨(Nat.le_of_ble_eq_true rfl), (Nat.le_of_ble_eq_true rfl)⟩ rfl rfl ⟨(Nat.le_of_ble_eq_true rfl), (Nat.le_of_ble_eq_true rfl)⟩ rfl (Nat.le_of_ble_eq_true rfl) rfl rfl rfl rfl (c_X6_takeBits t_a0 g_q3) ?_
    obtain ⟨z4, e_z4, hf⟩ := bd_s hf
    refine vv_lstore_nE (q := 18) (v := z4) (L' := [some (.ref a0), some (.int x1), some (.int r1), some (.long z4), none]) e_z4 dX6_takeSecond_17 rfl (Nat.le_of_ble_eq_true rfl) rfl ?_
    refine vv_lload_n 19 dX6_takeSecond_18 rfl rfl ?_
    refine vv_lconst 20 (v := 1) dX6_takeSecond_19 rfl (by decide) ?_
    refine vv_iload_n 21 dX6_takeSecond_20 rfl rfl ?_
    refine vv_iconst 22 (v := 1) dX6_takeSecond_21 rfl (by decide) ?_
    refine vv_isub 23 dX6_takeSecond_22 rfl ?_
    refine vv_lshl 24 dX6_takeSecond_23 rfl ?_
    refine vv_lcmp 25 dX6_takeSecond_24 rfl ?_
    refine vv_if_le 36 28 dX6_takeSecond_25 rfl (by decide) (fun c5 => ?_) (fun c5 => ?_)
    · rw [if_pos c5] at hf
      refine vv_lload_n 37 dX6_takeSecond_36 rfl rfl ?_
      obtain rfl := Option.some.inj hf
      exact vv_lret dX6_takeSecond_37 rfl
    · rw [if_neg c5] at hf
      refine vv_lload_n 29 dX6_takeSecond_28 rfl rfl ?_
      refine vv_lconst 30 (v := 1) dX6_takeSecond_29 rfl (by decide) ?_
      refine vv_iload_n 31 dX6_takeSecond_30 rfl rfl ?_
      refine vv_lshl 32 dX6_takeSecond_31 rfl ?_
      refine vv_lsub 33 dX6_takeSecond_32 rfl ?_
      refine vv_goto 37 dX6_takeSecond_33 (by decide) ?_
      obtain rfl := Option.some.inj hf
      exact vv_lret dX6_takeSecond_37 rfl

theorem c_X6_takeSecond {w : Wo} {K : Kn} {a0 : Nat} {x1 : Int32} {q : (Int64 × Mem)} {m : Mem} (t_a0 : K a0 = some (.inl 5)) (hf : F_X6_takeSecond K m a0 x1 = some q) : MM w K K yX6_takeSecond cX6_takeSecond 5 (some .long) rm_X6_takeSecond [.ref a0, .int x1] m (some (.long q.1)) q.2 0 0 :=
  mm_of (ini := false) (n := 3) (plainFor_of_name (by decide)) rfl (fun h => by first | rfl | cases h) (Nat.le_of_ble_eq_true rfl) rfl (v_X6_takeSecond_0 t_a0 hf)

set_option maxHeartbeats 4000000 in
theorem v_X6_takeValue_170 {w : Wo} {K : Kn} {a0 : Nat} {q : Mem} (t_a0 : K a0 = some (.inl 5)) {m : Mem} {sa0 : Nat} {s1 : Int64} (t_sa0 : K sa0 = some (.inl 5)) (hf : f_X6_takeValue_170 K a0 m sa0 s1 = some q) : VV w RX6 cX6_takeValue 4 none rm_X6_takeValue false (QM w K none q 0 0) K 170 [none, none, none, none] [.long s1, .ref sa0] 0 0 m := by
  unfold f_X6_takeValue_170 at hf
  obtain ⟨m1, e_m1, hf⟩ := bd_s hf
  refine pf_RX6_109 173 dX6_takeValue_170 rfl t_sa0 e_m1 ?_
  obtain rfl := Option.some.inj hf
  exact vv_vret dX6_takeValue_173 rfl

set_option maxHeartbeats 4000000 in
theorem v_X6_takeValue_149 {w : Wo} {K : Kn} {a0 : Nat} {q : Mem} (t_a0 : K a0 = some (.inl 5)) {m : Mem} {x2 : Int64} {sa0 : Nat} {s1 : Int32} (t_sa0 : K sa0 = some (.inl 5)) (hf : f_X6_takeValue_149 K a0 m x2 sa0 s1 = some q) : VV w RX6 cX6_takeValue 4 none rm_X6_takeValue false (QM w K none q 0 0) K 149 [some (.ref a0), none, some (.long x2), none] [.int s1, .ref sa0] 0 0 m := by
  unfold f_X6_takeValue_149 at hf
  obtain ⟨h1, hf⟩ := gd_s hf
  obtain ⟨m2, e_m2, hf⟩ := bd_s hf
  refine pf_RX6_102 152 dX6_takeValue_149 rfl t_sa0 h1 e_m2 ?_
  refine vv_aload_n 153 dX6_takeValue_152 rfl rfl ?_
  refine vv_aload_n 154 dX6_takeValue_153 rfl rfl ?_
  refine gf_RX6_102 157 dX6_takeValue_154 rfl t_a0 ?_
  refine vv_if_eq 164 160 dX6_takeValue_157 rfl (by decide) (fun c3 => ?_) (fun c3 => ?_)
  · rw [if_pos c3] at hf
    refine vv_lload_n 165 dX6_takeValue_164 rfl rfl ?_
    refine vv_aload_n 166 dX6_takeValue_165 rfl rfl ?_
    refine gf_RX6_136 169 dX6_takeValue_166 rfl t_a0 ?_
    refine vv_lshl 170 dX6_takeValue_169 rfl ?_
    exact VV.lle (v_X6_takeValue_170 t_a0 t_a0 hf) (lle_n (lle_s (lle_n (lle_s lle_nil))))
  · rw [if_neg c3] at hf
    refine vv_lconst 161 (v := 0) dX6_takeValue_160 rfl (by decide) ?_
    refine vv_goto 170 dX6_takeValue_161 (by decide) ?_
    exact VV.lle (v_X6_takeValue_170 t_a0 t_a0 hf) (lle_n (lle_s (lle_n (lle_s lle_nil))))

set_option maxHeartbeats 4000000 in
theorem v_X6_takeValue_130 {w : Wo} {K : Kn} {a0 : Nat} {q : Mem} (t_a0 : K a0 = some (.inl 5)) {m : Mem} {x1 : Int32} (hf : f_X6_takeValue_130 K a0 m x1 = some q) : VV w RX6 cX6_takeValue 4 none rm_X6_takeValue false (QM w K none q 0 0) K 130 [some (.ref a0), some (.int x1), none, none] [] 0 0 m := by
  unfold f_X6_takeValue_130 at hf
  refine vv_aload_n 131 dX6_takeValue_130 rfl rfl ?_
  refine vv_iload_n 132 dX6_takeValue_131 rfl rfl ?_
  obtain ⟨q1, g_q1, hf⟩ := bind_s hf
  refine vv_callV 135 (st := []) (As := [.int x1]) (stk2 := [.long q1.1]) (cl2 := 0) (sl2 := 0) dX6_takeValue_132 rfl lk_RX6_42 w_633 w_6 rfl t_a0 ⟨(Nat.le_of_ble_eq_true rfl), (Nat.le_of_ble_eq_true rfl)⟩ rfl rfl ⟨(Nat.le_of_ble_eq_true rfl), (Nat.le_of_ble_eq_true rfl)⟩ rfl (Nat.le_of_ble_eq_true rfl) rfl rfl rfl rfl (c_X6_takeBits t_a0 g_q1) ?_
  obtain ⟨z2, e_z2, hf⟩ := bd_s hf
  refine vv_lstore_nE (q := 136) (v := z2) (L' := [some (.ref a0), some (.int x1), some (.long z2), none]) e_z2 dX6_takeValue_135 rfl (Nat.le_of_ble_eq_true rfl) rfl ?_
  refine vv_aload_n 137 dX6_takeValue_136 rfl rfl ?_
  refine vv_aload_n 138 dX6_takeValue_137 rfl rfl ?_
  refine gf_RX6_136 141 dX6_takeValue_138 rfl t_a0 ?_
  refine vv_if_ge 148 144 dX6_takeValue_141 rfl (by decide) (fun c3 => ?_) (fun c3 => ?_)
  · rw [if_pos c3] at hf
    refine vv_iconst 149 (v := 0) dX6_takeValue_148 rfl (by decide) ?_
    exact VV.lle (v_X6_takeValue_149 t_a0 t_a0 hf) (lle_s (lle_n (lle_s (lle_s lle_nil))))
  · rw [if_neg c3] at hf
    refine vv_iconst 145 (v := 1) dX6_takeValue_144 rfl (by decide) ?_
    refine vv_goto 149 dX6_takeValue_145 (by decide) ?_
    exact VV.lle (v_X6_takeValue_149 t_a0 t_a0 hf) (lle_s (lle_n (lle_s (lle_s lle_nil))))

set_option maxHeartbeats 4000000 in
theorem v_X6_takeValue_87 {w : Wo} {K : Kn} {a0 : Nat} {q : Mem} (t_a0 : K a0 = some (.inl 5)) {m : Mem} {s0 : Int32} (hf : f_X6_takeValue_87 K a0 m s0 = some q) : VV w RX6 cX6_takeValue 4 none rm_X6_takeValue false (QM w K none q 0 0) K 87 [some (.ref a0), none, none, none] [.int s0] 0 0 m := by
  unfold f_X6_takeValue_87 at hf
  refine vv_istore_n 88 (L' := [some (.ref a0), some (.int s0), none, none]) dX6_takeValue_87 rfl (Nat.le_of_ble_eq_true rfl) rfl ?_
  refine vv_goto 130 dX6_takeValue_88 (by decide) ?_
  exact v_X6_takeValue_130 t_a0 hf

set_option maxHeartbeats 4000000 in
theorem v_X6_takeValue_0 {w : Wo} {K : Kn} {a0 : Nat} {q : Mem} (t_a0 : K a0 = some (.inl 5)) {m : Mem} (hf : f_X6_takeValue K a0 m = some q) : VV w RX6 cX6_takeValue 4 none rm_X6_takeValue false (QM w K none q 0 0) K 0 [some (.ref a0), none, none, none] [] 0 0 m := by
  unfold f_X6_takeValue at hf
  refine vv_aload_n 1 dX6_takeValue_0 rfl rfl ?_
  refine vv_iconst 2 (v := 0) dX6_takeValue_1 rfl (by decide) ?_
  obtain ⟨m1, e_m1, hf⟩ := bd_s hf
  refine pf_RX6_130 5 dX6_takeValue_2 rfl t_a0 e_m1 ?_
  refine vv_aload_n 6 dX6_takeValue_5 rfl rfl ?_
  refine vv_iconst 7 (v := 0) dX6_takeValue_6 rfl (by decide) ?_
  obtain ⟨m2, e_m2, hf⟩ := bd_s hf
  refine pf_RX6_136 10 dX6_takeValue_7 rfl t_a0 e_m2 ?_
  refine vv_iconst 11 (v := 0) dX6_takeValue_10 rfl (by decide) ?_
  refine vv_istore_n 12 (L' := [some (.ref a0), some (.int (0 : Int32)), none, none]) dX6_takeValue_11 rfl (Nat.le_of_ble_eq_true rfl) rfl ?_
  refine vv_aload_n 13 dX6_takeValue_12 rfl rfl ?_
  refine vv_iconst 14 (v := 1) dX6_takeValue_13 rfl (by decide) ?_
  obtain ⟨q3, g_q3, hf⟩ := bind_s hf
  refine vv_callV 17 (st := []) (As := [.int (1 : Int32)]) (stk2 := [.long q3.1]) (cl2 := 0) (sl2 := 0) dX6_takeValue_14 rfl lk_RX6_42 w_633 w_6 rfl t_a0 ⟨(Nat.le_of_ble_eq_true rfl), (Nat.le_of_ble_eq_true rfl)⟩ rfl rfl ⟨(Nat.le_of_ble_eq_true rfl), (Nat.le_of_ble_eq_true rfl)⟩ rfl (Nat.le_of_ble_eq_true rfl) rfl rfl rfl rfl (c_X6_takeBits t_a0 g_q3) ?_
  refine vv_lconst 18 (v := 0) dX6_takeValue_17 rfl (by decide) ?_
  refine vv_lcmp 19 dX6_takeValue_18 rfl ?_
  refine vv_if_ne 30 22 dX6_takeValue_19 rfl (by decide) (fun c4 => ?_) (fun c4 => ?_)
  · rw [if_pos c4] at hf
    refine vv_aload_n 23 dX6_takeValue_22 rfl rfl ?_
    refine vv_iconst 24 (v := 5) dX6_takeValue_23 rfl (by decide) ?_
    obtain ⟨m5, e_m5, hf⟩ := bd_s hf
    refine pf_RX6_126 27 dX6_takeValue_24 rfl t_a0 e_m5 ?_
    refine vv_goto 130 dX6_takeValue_27 (by decide) ?_
    exact v_X6_takeValue_130 t_a0 hf
  · rw [if_neg c4] at hf
    refine vv_aload_n 31 dX6_takeValue_30 rfl rfl ?_
    refine vv_iconst 32 (v := 1) dX6_takeValue_31 rfl (by decide) ?_
    obtain ⟨q6, g_q6, hf⟩ := bind_s hf
    refine vv_callV 35 (st := []) (As := [.int (1 : Int32)]) (stk2 := [.long q6.1]) (cl2 := 0) (sl2 := 0) dX6_takeValue_32 rfl lk_RX6_42 w_633 w_6 rfl t_a0 ⟨(Nat.le_of_ble_eq_true rfl), (Nat.le_of_ble_eq_true rfl)⟩ rfl rfl ⟨(Nat.le_of_ble_eq_true rfl), (Nat.le_of_ble_eq_true rfl)⟩ rfl (Nat.le_of_ble_eq_true rfl) rfl rfl rfl rfl (c_X6_takeBits t_a0 g_q6) ?_
    refine vv_lconst 36 (v := 0) dX6_takeValue_35 rfl (by decide) ?_
    refine vv_lcmp 37 dX6_takeValue_36 rfl ?_
    refine vv_if_ne 91 40 dX6_takeValue_37 rfl (by decide) (fun c7 => ?_) (fun c7 => ?_)
    · rw [if_pos c7] at hf
      refine vv_aload_n 41 dX6_takeValue_40 rfl rfl ?_
      refine vv_bipush 43 (v := 6) dX6_takeValue_41 rfl (by decide) ?_
      obtain ⟨m8, e_m8, hf⟩ := bd_s hf
      refine pf_RX6_126 46 dX6_takeValue_43 rfl t_a0 e_m8 ?_
      refine vv_aload_n 47 dX6_takeValue_46 rfl rfl ?_
      refine vv_aload_n 48 dX6_takeValue_47 rfl rfl ?_
      obtain ⟨b9, g_b9, hf⟩ := bind_s hf
      have t_b9 := (ldO_spec g_b9).2
      refine gf_RX6_12 51 dX6_takeValue_48 rfl t_a0 (ldO_spec g_b9).1 ?_
      refine gf_RX6_142 54 dX6_takeValue_51 rfl t_b9 ?_
      obtain ⟨m10, e_m10, hf⟩ := bd_s hf
      refine pf_RX6_136 57 dX6_takeValue_54 rfl t_a0 e_m10 ?_
      refine vv_aload_n 58 dX6_takeValue_57 rfl rfl ?_
      obtain ⟨b11, g_b11, hf⟩ := bind_s hf
      have t_b11 := (ldO_spec g_b11).2
      refine gf_RX6_12 61 dX6_takeValue_58 rfl t_a0 (ldO_spec g_b11).1 ?_
      refine gf_RX6_143 64 dX6_takeValue_61 rfl t_b11 ?_
      refine vv_iconst 65 (v := (-1)) dX6_takeValue_64 rfl (by decide) ?_
      refine vv_icmp_ne 72 68 dX6_takeValue_65 rfl (by decide) (fun c12 => ?_) (fun c12 => ?_)
      · rw [if_pos c12] at hf
        refine vv_iconst 69 (v := 0) dX6_takeValue_68 rfl (by decide) ?_
        refine vv_goto 87 dX6_takeValue_69 (by decide) ?_
        exact VV.lle (v_X6_takeValue_87 t_a0 hf) (lle_s (lle_n (lle_s (lle_s lle_nil))))
      · rw [if_neg c12] at hf
        refine vv_bipush 74 (v := 64) dX6_takeValue_72 rfl (by decide) ?_
        refine vv_aload_n 75 dX6_takeValue_74 rfl rfl ?_
        obtain ⟨b13, g_b13, hf⟩ := bind_s hf
        have t_b13 := (ldO_spec g_b13).2
        refine gf_RX6_12 78 dX6_takeValue_75 rfl t_a0 (ldO_spec g_b13).1 ?_
        refine gf_RX6_143 81 dX6_takeValue_78 rfl t_b13 ?_
        refine vv_isub 82 dX6_takeValue_81 rfl ?_
        refine vv_aload_n 83 dX6_takeValue_82 rfl rfl ?_
        refine gf_RX6_136 86 dX6_takeValue_83 rfl t_a0 ?_
        refine vv_isub 87 dX6_takeValue_86 rfl ?_
        exact VV.lle (v_X6_takeValue_87 t_a0 hf) (lle_s (lle_n (lle_s (lle_s lle_nil))))
    · rw [if_neg c7] at hf
      refine vv_aload_n 92 dX6_takeValue_91 rfl rfl ?_
      refine vv_bipush 94 (v := 7) dX6_takeValue_92 rfl (by decide) ?_
      obtain ⟨m14, e_m14, hf⟩ := bd_s hf
      refine pf_RX6_126 97 dX6_takeValue_94 rfl t_a0 e_m14 ?_
      refine vv_aload_n 98 dX6_takeValue_97 rfl rfl ?_
      refine vv_aload_n 99 dX6_takeValue_98 rfl rfl ?_
      refine vv_iconst 100 (v := 5) dX6_takeValue_99 rfl (by decide) ?_
      obtain ⟨q15, g_q15, hf⟩ := bind_s hf
      refine vv_callV 103 (st := [.ref a0]) (As := [.int (5 : Int32)]) (stk2 := [.long q15.1, .ref a0]) (cl2 := 0) (sl2 := 0) dX6_takeValue_100 rfl lk_RX6_42 w_633 w_6 rfl t_a0 ⟨(Nat.le_of_ble_eq_true rfl), (Nat.le_of_ble_eq_true rfl)⟩ rfl rfl ⟨(Nat.le_of_ble_eq_true rfl), (Nat.le_of_ble_eq_true rfl)⟩ rfl (Nat.le_of_ble_eq_true rfl) rfl rfl rfl rfl (c_X6_takeBits t_a0 g_q15) ?_
      refine vv_l2i 104 dX6_takeValue_103 rfl ?_
      obtain ⟨m16, e_m16, hf⟩ := bd_s hf
      refine pf_RX6_130 107 dX6_takeValue_104 rfl t_a0 e_m16 ?_
      refine vv_aload_n 108 dX6_takeValue_107 rfl rfl ?_
      refine vv_bipush 110 (v := 6) dX6_takeValue_108 rfl (by decide) ?_
      obtain ⟨q17, g_q17, hf⟩ := bind_s hf
      refine vv_callV 113 (st := []) (As := [.int (6 : Int32)]) (stk2 := [.long q17.1]) (cl2 := 0) (sl2 := 0) dX6_takeValue_110 rfl lk_RX6_42 w_633 w_6 rfl t_a0 ⟨(Nat.le_of_ble_eq_true rfl), (Nat.le_of_ble_eq_true rfl)⟩ rfl rfl ⟨(Nat.le_of_ble_eq_true rfl), (Nat.le_of_ble_eq_true rfl)⟩ rfl (Nat.le_of_ble_eq_true rfl) rfl rfl rfl rfl (c_X6_takeBits t_a0 g_q17) ?_
      refine vv_l2i 114 dX6_takeValue_113 rfl ?_
      refine vv_iconst 115 (v := 1) dX6_takeValue_114 rfl (by decide) ?_
      refine vv_iadd 116 dX6_takeValue_115 rfl ?_
      obtain ⟨z18, e_z18, hf⟩ := bd_s hf
      refine vv_istore_nE (q := 117) (v := z18) (L' := [some (.ref a0), some (.int z18), none, none]) e_z18 dX6_takeValue_116 rfl (Nat.le_of_ble_eq_true rfl) rfl ?_
      refine vv_aload_n 118 dX6_takeValue_117 rfl rfl ?_
      refine vv_bipush 120 (v := 64) dX6_takeValue_118 rfl (by decide) ?_
      refine vv_aload_n 121 dX6_takeValue_120 rfl rfl ?_
      refine gf_RX6_130 124 dX6_takeValue_121 rfl t_a0 ?_
      refine vv_isub 125 dX6_takeValue_124 rfl ?_
      refine vv_iload_n 126 dX6_takeValue_125 rfl rfl ?_
      refine vv_isub 127 dX6_takeValue_126 rfl ?_
      obtain ⟨m19, e_m19, hf⟩ := bd_s hf
      refine pf_RX6_136 130 dX6_takeValue_127 rfl t_a0 e_m19 ?_
      exact v_X6_takeValue_130 t_a0 hf

theorem c_X6_takeValue {w : Wo} {K : Kn} {a0 : Nat} {q : Mem} {m : Mem} (t_a0 : K a0 = some (.inl 5)) (hf : F_X6_takeValue K m a0 = some q) : MM w K K yX6_takeValue cX6_takeValue 4 none rm_X6_takeValue [.ref a0] m none q 0 0 :=
  mm_of (ini := false) (n := 3) (plainFor_of_name (by decide)) rfl (fun h => by first | rfl | cases h) (Nat.le_of_ble_eq_true rfl) rfl (v_X6_takeValue_0 t_a0 hf)

set_option maxHeartbeats 4000000 in
theorem v_X6_isToldSo_65 {w : Wo} {K : Kn} {a0 : Nat} {q : Int32} {m : Mem} (t_a0 : K a0 = some (.inl 5)) (hf : f_X6_isToldSo_65 K m a0 = some q) : VV w RX6 cX6_isToldSo 1 (some .boolean) rm_X6_isToldSo false (QM w K (some (.int q)) m 0 0) K 65 [none] [] 0 0 m := by
  unfold f_X6_isToldSo_65 at hf
  refine vv_iconst 66 (v := 1) dX6_isToldSo_65 rfl (by decide) ?_
  refine vv_goto 70 dX6_isToldSo_66 (by decide) ?_
  obtain rfl := Option.some.inj hf
  exact vv_zret dX6_isToldSo_70 rfl (Or.inr rfl)

set_option maxHeartbeats 4000000 in
theorem v_X6_isToldSo_69 {w : Wo} {K : Kn} {a0 : Nat} {q : Int32} {m : Mem} (t_a0 : K a0 = some (.inl 5)) (hf : f_X6_isToldSo_69 K m a0 = some q) : VV w RX6 cX6_isToldSo 1 (some .boolean) rm_X6_isToldSo false (QM w K (some (.int q)) m 0 0) K 69 [none] [] 0 0 m := by
  unfold f_X6_isToldSo_69 at hf
  refine vv_iconst 70 (v := 0) dX6_isToldSo_69 rfl (by decide) ?_
  obtain rfl := Option.some.inj hf
  exact vv_zret dX6_isToldSo_70 rfl (Or.inl rfl)

set_option maxHeartbeats 4000000 in
theorem v_X6_isToldSo_0 {w : Wo} {K : Kn} {a0 : Nat} {q : Int32} {m : Mem} (t_a0 : K a0 = some (.inl 5)) (hf : f_X6_isToldSo K m a0 = some q) : VV w RX6 cX6_isToldSo 1 (some .boolean) rm_X6_isToldSo false (QM w K (some (.int q)) m 0 0) K 0 [some (.ref a0)] [] 0 0 m := by
  unfold f_X6_isToldSo at hf
  refine vv_aload_n 1 dX6_isToldSo_0 rfl rfl ?_
  obtain ⟨b1, g_b1, hf⟩ := bind_s hf
  have t_b1 := (ldO_spec g_b1).2
  refine gf_RX6_12 4 dX6_isToldSo_1 rfl t_a0 (ldO_spec g_b1).1 ?_
  refine gf_RX6_122 7 dX6_isToldSo_4 rfl t_b1 ?_
  refine vv_aload_n 8 dX6_isToldSo_7 rfl rfl ?_
  refine gf_RX6_88 11 dX6_isToldSo_8 rfl t_a0 ?_
  refine vv_icmp_ne 69 14 dX6_isToldSo_11 rfl (by decide) (fun c2 => ?_) (fun c2 => ?_)
  · rw [if_pos c2] at hf
    refine vv_aload_n 15 dX6_isToldSo_14 rfl rfl ?_
    obtain ⟨b3, g_b3, hf⟩ := bind_s hf
    have t_b3 := (ldO_spec g_b3).2
    refine gf_RX6_12 18 dX6_isToldSo_15 rfl t_a0 (ldO_spec g_b3).1 ?_
    refine gf_RX6_123 21 dX6_isToldSo_18 rfl t_b3 ?_
    refine vv_aload_n 22 dX6_isToldSo_21 rfl rfl ?_
    refine gf_RX6_126 25 dX6_isToldSo_22 rfl t_a0 ?_
    refine vv_icmp_ne 69 28 dX6_isToldSo_25 rfl (by decide) (fun c4 => ?_) (fun c4 => ?_)
    · rw [if_pos c4] at hf
      refine vv_aload_n 29 dX6_isToldSo_28 rfl rfl ?_
      refine gf_RX6_126 32 dX6_isToldSo_29 rfl t_a0 ?_
      refine vv_bipush 34 (v := 7) dX6_isToldSo_32 rfl (by decide) ?_
      refine vv_icmp_ne 65 37 dX6_isToldSo_34 rfl (by decide) (fun c5 => ?_) (fun c5 => ?_)
      · rw [if_pos c5] at hf
        refine vv_aload_n 38 dX6_isToldSo_37 rfl rfl ?_
        obtain ⟨b6, g_b6, hf⟩ := bind_s hf
        have t_b6 := (ldO_spec g_b6).2
        refine gf_RX6_12 41 dX6_isToldSo_38 rfl t_a0 (ldO_spec g_b6).1 ?_
        refine gf_RX6_127 44 dX6_isToldSo_41 rfl t_b6 ?_
        refine vv_aload_n 45 dX6_isToldSo_44 rfl rfl ?_
        refine gf_RX6_130 48 dX6_isToldSo_45 rfl t_a0 ?_
        refine vv_icmp_ne 69 51 dX6_isToldSo_48 rfl (by decide) (fun c7 => ?_) (fun c7 => ?_)
        · rw [if_pos c7] at hf
          refine vv_aload_n 52 dX6_isToldSo_51 rfl rfl ?_
          obtain ⟨b8, g_b8, hf⟩ := bind_s hf
          have t_b8 := (ldO_spec g_b8).2
          refine gf_RX6_12 55 dX6_isToldSo_52 rfl t_a0 (ldO_spec g_b8).1 ?_
          refine gf_RX6_133 58 dX6_isToldSo_55 rfl t_b8 ?_
          refine vv_aload_n 59 dX6_isToldSo_58 rfl rfl ?_
          refine gf_RX6_136 62 dX6_isToldSo_59 rfl t_a0 ?_
          refine vv_icmp_ne 69 65 dX6_isToldSo_62 rfl (by decide) (fun c9 => ?_) (fun c9 => ?_)
          · rw [if_pos c9] at hf
            exact VV.lle (v_X6_isToldSo_65 t_a0 hf) (lle_n lle_nil)
          · rw [if_neg c9] at hf
            exact VV.lle (v_X6_isToldSo_69 t_a0 hf) (lle_n lle_nil)
        · rw [if_neg c7] at hf
          exact VV.lle (v_X6_isToldSo_69 t_a0 hf) (lle_n lle_nil)
      · rw [if_neg c5] at hf
        exact VV.lle (v_X6_isToldSo_65 t_a0 hf) (lle_n lle_nil)
    · rw [if_neg c4] at hf
      exact VV.lle (v_X6_isToldSo_69 t_a0 hf) (lle_n lle_nil)
  · rw [if_neg c2] at hf
    exact VV.lle (v_X6_isToldSo_69 t_a0 hf) (lle_n lle_nil)

theorem c_X6_isToldSo {w : Wo} {K : Kn} {a0 : Nat} {q : Int32} {m : Mem} (t_a0 : K a0 = some (.inl 5)) (hf : F_X6_isToldSo K m a0 = some q) : MM w K K yX6_isToldSo cX6_isToldSo 1 (some .boolean) rm_X6_isToldSo [.ref a0] m (some (.int q)) m 0 0 :=
  mm_of (ini := false) (n := 0) (plainFor_of_name (by decide)) rfl (fun h => by first | rfl | cases h) (Nat.le_of_ble_eq_true rfl) rfl (v_X6_isToldSo_0 t_a0 hf)

set_option maxHeartbeats 4000000 in
theorem v_X6_read_0 {w : Wo} {K : Kn} {a0 : Nat} {q : (Int32 × Mem)} (t_a0 : K a0 = some (.inl 5)) {m : Mem} (hf : f_X6_read K a0 m = some q) : VV w RX6 cX6_read 7 (some .int) rm_X6_read false (QM w K (some (.int q.1)) q.2 0 0) K 0 [some (.ref a0), none, none, none, none, none, none] [] 0 0 m := by
  unfold f_X6_read at hf
  refine vv_aload_n 1 dX6_read_0 rfl rfl ?_
  refine vv_aload_n 2 dX6_read_1 rfl rfl ?_
  obtain ⟨q1, g_q1, hf⟩ := bind_s hf
  refine vv_callV 5 (st := [.ref a0]) (As := []) (stk2 := [.int q1.1, .ref a0]) (cl2 := 0) (sl2 := 0) dX6_read_2 rfl lk_RX6_85 w_643 w_7 rfl t_a0 ⟨(Nat.le_of_ble_eq_true rfl), (Nat.le_of_ble_eq_true rfl)⟩ rfl rfl ⟨(Nat.le_of_ble_eq_true rfl), (Nat.le_of_ble_eq_true rfl)⟩ rfl (Nat.le_of_ble_eq_true rfl) rfl rfl rfl rfl (c_X6_takeKind t_a0 g_q1) ?_
  obtain ⟨m2, e_m2, hf⟩ := bd_s hf
  refine pf_RX6_88 8 dX6_read_5 rfl t_a0 e_m2 ?_
  refine vv_aload_n 9 dX6_read_8 rfl rfl ?_
  refine vv_aload_n 10 dX6_read_9 rfl rfl ?_
  refine gf_RX6_88 13 dX6_read_10 rfl t_a0 ?_
  obtain ⟨q3, g_q3, hf⟩ := bind_s hf
  refine vv_callV 16 (st := []) (As := [.int (gI m2 a0 11)]) (stk2 := [.long q3.1]) (cl2 := 0) (sl2 := 0) dX6_read_13 rfl lk_RX6_91 w_647 w_8 rfl t_a0 ⟨(Nat.le_of_ble_eq_true rfl), (Nat.le_of_ble_eq_true rfl)⟩ rfl rfl ⟨(Nat.le_of_ble_eq_true rfl), (Nat.le_of_ble_eq_true rfl)⟩ rfl (Nat.le_of_ble_eq_true rfl) rfl rfl rfl rfl (c_X6_takeSecond t_a0 g_q3) ?_
  obtain ⟨z4, e_z4, hf⟩ := bd_s hf
  refine vv_lstore_nE (q := 17) (v := z4) (L' := [some (.ref a0), some (.long z4), none, none, none, none, none]) e_z4 dX6_read_16 rfl (Nat.le_of_ble_eq_true rfl) rfl ?_
  refine vv_aload_n 18 dX6_read_17 rfl rfl ?_
  obtain ⟨q5, g_q5, hf⟩ := bind_s hf
  refine vv_callV 21 (st := []) (As := []) (stk2 := []) (cl2 := 0) (sl2 := 0) dX6_read_18 rfl lk_RX6_94 w_652 w_9 rfl t_a0 ⟨(Nat.le_of_ble_eq_true rfl), (Nat.le_of_ble_eq_true rfl)⟩ rfl rfl ⟨(Nat.le_of_ble_eq_true rfl), (Nat.le_of_ble_eq_true rfl)⟩ rfl (Nat.le_of_ble_eq_true rfl) rfl rfl rfl rfl (c_X6_takeValue t_a0 g_q5) ?_
  refine vv_aload_n 22 dX6_read_21 rfl rfl ?_
  refine gf_RX6_39 25 dX6_read_22 rfl t_a0 ?_
  refine vv_if_eq 30 28 dX6_read_25 rfl (by decide) (fun c6 => ?_) (fun c6 => ?_)
  · rw [if_pos c6] at hf
    refine vv_aload_n 31 dX6_read_30 rfl rfl ?_
    obtain ⟨b7, g_b7, hf⟩ := bind_s hf
    have t_b7 := (ldO_spec g_b7).2
    refine gf_RX6_12 34 dX6_read_31 rfl t_a0 (ldO_spec g_b7).1 ?_
    refine gf_RX6_97 37 dX6_read_34 rfl t_b7 ?_
    refine vv_i2l 38 dX6_read_37 rfl ?_
    refine vv_lload_n 39 dX6_read_38 rfl rfl ?_
    refine vv_ladd 40 dX6_read_39 rfl ?_
    obtain ⟨z8, e_z8, hf⟩ := bd_s hf
    refine vv_lstore_nE (q := 41) (v := z8) (L' := [some (.ref a0), some (.long z4), none, some (.long z8), none, none, none]) e_z8 dX6_read_40 rfl (Nat.le_of_ble_eq_true rfl) rfl ?_
    refine vv_aload_n 42 dX6_read_41 rfl rfl ?_
    obtain ⟨b9, g_b9, hf⟩ := bind_s hf
    have t_b9 := (ldO_spec g_b9).2
    refine gf_RX6_12 45 dX6_read_42 rfl t_a0 (ldO_spec g_b9).1 ?_
    refine gf_RX6_79 48 dX6_read_45 rfl t_b9 ?_
    refine vv_i2l 49 dX6_read_48 rfl ?_
    refine vv_lload_n 50 dX6_read_49 rfl rfl ?_
    refine vv_ladd 51 dX6_read_50 rfl ?_
    obtain ⟨z10, e_z10, hf⟩ := bd_s hf
    refine vv_lstoreE (q := 53) (v := z10) (L' := [some (.ref a0), some (.long z4), none, some (.long z8), none, some (.long z10), none]) e_z10 dX6_read_51 rfl (Nat.le_of_ble_eq_true rfl) rfl ?_
    refine vv_lload_n 54 dX6_read_53 rfl rfl ?_
    refine vv_lconst 55 (v := 1) dX6_read_54 rfl (by decide) ?_
    refine vv_lcmp 56 dX6_read_55 rfl ?_
    refine vv_if_lt 68 59 dX6_read_56 rfl (by decide) (fun c11 => ?_) (fun c11 => ?_)
    · rw [if_pos c11] at hf
      refine vv_iconst 69 (v := 3) dX6_read_68 rfl (by decide) ?_
      obtain rfl := Option.some.inj hf
      exact vv_iret dX6_read_69 rfl
    · rw [if_neg c11] at hf
      refine vv_lload 61 dX6_read_59 rfl rfl ?_
      refine vv_ldc2 64 (v := 2000000000) dX6_read_61 rfl w_654 ?_
      refine vv_lcmp 65 dX6_read_64 rfl ?_
      refine vv_if_le 70 68 dX6_read_65 rfl (by decide) (fun c12 => ?_) (fun c12 => ?_)
      · rw [if_pos c12] at hf
        refine vv_aload_n 71 dX6_read_70 rfl rfl ?_
        refine gf_RX6_102 74 dX6_read_71 rfl t_a0 ?_
        refine vv_if_eq 79 77 dX6_read_74 rfl (by decide) (fun c13 => ?_) (fun c13 => ?_)
        · rw [if_pos c13] at hf
          refine vv_aload_n 80 dX6_read_79 rfl rfl ?_
          obtain ⟨b14, g_b14, hf⟩ := bind_s hf
          have t_b14 := (ldO_spec g_b14).2
          refine gf_RX6_12 83 dX6_read_80 rfl t_a0 (ldO_spec g_b14).1 ?_
          refine vv_lload 85 dX6_read_83 rfl rfl ?_
          refine vv_l2i 86 dX6_read_85 rfl ?_
          refine vv_aload_n 87 dX6_read_86 rfl rfl ?_
          obtain ⟨b15, g_b15, hf⟩ := bind_s hf
          have t_b15 := (ldO_spec g_b15).2
          refine gf_RX6_12 90 dX6_read_87 rfl t_a0 (ldO_spec g_b15).1 ?_
          refine gf_RX6_105 93 dX6_read_90 rfl t_b15 ?_
          refine vv_aload_n 94 dX6_read_93 rfl rfl ?_
          refine gf_RX6_109 97 dX6_read_94 rfl t_a0 ?_
          refine vv_lxor 98 dX6_read_97 rfl ?_
          obtain ⟨q16, g_q16, hf⟩ := bind_s hf
          refine vv_callV 101 (st := []) (As := [.int ((z10).toInt32), .long ((gJ q5 b15 2) ^^^ (gJ q5 a0 15))]) (stk2 := []) (cl2 := 0) (sl2 := 0) dX6_read_98 rfl lk_RX6_112 w_488 w_489 rfl t_b14 ⟨(Nat.le_of_ble_eq_true rfl), (Nat.le_of_ble_eq_true rfl)⟩ rfl rfl ⟨(Nat.le_of_ble_eq_true rfl), (Nat.le_of_ble_eq_true rfl)⟩ rfl (Nat.le_of_ble_eq_true rfl) rfl rfl rfl rfl (c_X1_weigh t_b14 g_q16) ?_
          refine vv_aload_n 102 dX6_read_101 rfl rfl ?_
          obtain ⟨q17, g_q17, hf⟩ := bind_s hf
          refine vv_callV 105 (st := []) (As := []) (stk2 := [.int q17]) (cl2 := 0) (sl2 := 0) dX6_read_102 rfl lk_RX6_115 w_658 w_10 rfl t_a0 ⟨(Nat.le_of_ble_eq_true rfl), (Nat.le_of_ble_eq_true rfl)⟩ rfl rfl ⟨(Nat.le_of_ble_eq_true rfl), (Nat.le_of_ble_eq_true rfl)⟩ rfl (Nat.le_of_ble_eq_true rfl) rfl rfl rfl rfl (c_X6_isToldSo t_a0 g_q17) ?_
          refine vv_if_ne 110 108 dX6_read_105 rfl (by decide) (fun c18 => ?_) (fun c18 => ?_)
          · rw [if_pos c18] at hf
            refine vv_iconst 109 (v := 4) dX6_read_108 rfl (by decide) ?_
            obtain rfl := Option.some.inj hf
            exact vv_iret dX6_read_109 rfl
          · rw [if_neg c18] at hf
            refine vv_aload_n 111 dX6_read_110 rfl rfl ?_
            obtain ⟨b19, g_b19, hf⟩ := bind_s hf
            have t_b19 := (ldO_spec g_b19).2
            refine gf_RX6_12 114 dX6_read_111 rfl t_a0 (ldO_spec g_b19).1 ?_
            obtain ⟨q20, g_q20, hf⟩ := bind_s hf
            refine vv_callV 117 (st := []) (As := []) (stk2 := []) (cl2 := 0) (sl2 := 0) dX6_read_114 rfl lk_RX6_119 w_539 w_540 rfl t_b19 ⟨(Nat.le_of_ble_eq_true rfl), (Nat.le_of_ble_eq_true rfl)⟩ rfl rfl ⟨(Nat.le_of_ble_eq_true rfl), (Nat.le_of_ble_eq_true rfl)⟩ rfl (Nat.le_of_ble_eq_true rfl) rfl rfl rfl rfl (c_X1_step t_b19 g_q20) ?_
            refine vv_iconst 118 (v := 0) dX6_read_117 rfl (by decide) ?_
            obtain rfl := Option.some.inj hf
            exact vv_iret dX6_read_118 rfl
        · rw [if_neg c13] at hf
          refine vv_iconst 78 (v := 4) dX6_read_77 rfl (by decide) ?_
          obtain rfl := Option.some.inj hf
          exact vv_iret dX6_read_78 rfl
      · rw [if_neg c12] at hf
        refine vv_iconst 69 (v := 3) dX6_read_68 rfl (by decide) ?_
        obtain rfl := Option.some.inj hf
        exact vv_iret dX6_read_69 rfl
  · rw [if_neg c6] at hf
    refine vv_iconst 29 (v := 2) dX6_read_28 rfl (by decide) ?_
    obtain rfl := Option.some.inj hf
    exact vv_iret dX6_read_29 rfl

theorem c_X6_read {w : Wo} {K : Kn} {a0 : Nat} {q : (Int32 × Mem)} {m : Mem} (t_a0 : K a0 = some (.inl 5)) (hf : F_X6_read K m a0 = some q) : MM w K K yX6_read cX6_read 7 (some .int) rm_X6_read [.ref a0] m (some (.int q.1)) q.2 0 0 :=
  mm_of (ini := false) (n := 6) (plainFor_of_name (by decide)) rfl (fun h => by first | rfl | cases h) (Nat.le_of_ble_eq_true rfl) rfl (v_X6_read_0 t_a0 hf)

set_option maxHeartbeats 4000000 in
theorem v_X5_push_0 {w : Wo} {K : Kn} {a0 : Nat} {x1 : Int32} {x2 : Int64} {q : Mem} (t_a0 : K a0 = some (.inl 4)) {m : Mem} (hf : f_X5_push K a0 x1 x2 m = some q) : VV w RX5 cX5_push 4 none rm_X5_push false (QM w K none q 0 0) K 0 [some (.ref a0), some (.int x1), some (.long x2), none] [] 0 0 m := by
  unfold f_X5_push at hf
  refine vv_aload_n 1 dX5_push_0 rfl rfl ?_
  refine gf_RX5_19 4 dX5_push_1 rfl t_a0 ?_
  refine vv_aload_n 5 dX5_push_4 rfl rfl ?_
  obtain ⟨b1, g_b1, hf⟩ := bind_s hf
  have t_b1 := (ldA_spec g_b1).2
  refine gf_RX5_9 8 dX5_push_5 rfl t_a0 (ldA_spec g_b1).1 ?_
  refine vv_alen 9 dX5_push_8 rfl (by decide) t_b1 ?_
  refine vv_icmp_ge 42 12 dX5_push_9 rfl (by decide) (fun c2 => ?_) (fun c2 => ?_)
  · rw [if_pos c2] at hf
    obtain rfl := Option.some.inj hf
    exact vv_vret dX5_push_42 rfl
  · rw [if_neg c2] at hf
    refine vv_aload_n 13 dX5_push_12 rfl rfl ?_
    obtain ⟨b3, g_b3, hf⟩ := bind_s hf
    have t_b3 := (ldA_spec g_b3).2
    refine gf_RX5_9 16 dX5_push_13 rfl t_a0 (ldA_spec g_b3).1 ?_
    refine vv_aload_n 17 dX5_push_16 rfl rfl ?_
    refine gf_RX5_19 20 dX5_push_17 rfl t_a0 ?_
    refine vv_iload_n 21 dX5_push_20 rfl rfl ?_
    obtain ⟨m4, g_m4, hf⟩ := bind_s hf
    refine vv_iast 22 dX5_push_21 rfl t_b3 g_m4 ?_
    refine vv_aload_n 23 dX5_push_22 rfl rfl ?_
    obtain ⟨b5, g_b5, hf⟩ := bind_s hf
    have t_b5 := (ldA_spec g_b5).2
    refine gf_RX5_15 26 dX5_push_23 rfl t_a0 (ldA_spec g_b5).1 ?_
    refine vv_aload_n 27 dX5_push_26 rfl rfl ?_
    refine gf_RX5_19 30 dX5_push_27 rfl t_a0 ?_
    refine vv_lload_n 31 dX5_push_30 rfl rfl ?_
    obtain ⟨m6, g_m6, hf⟩ := bind_s hf
    refine vv_last 32 dX5_push_31 rfl t_b5 g_m6 ?_
    refine vv_aload_n 33 dX5_push_32 rfl rfl ?_
    refine vv_dup 34 dX5_push_33 rfl rfl ?_
    refine gf_RX5_19 37 dX5_push_34 rfl t_a0 ?_
    refine vv_iconst 38 (v := 1) dX5_push_37 rfl (by decide) ?_
    refine vv_iadd 39 dX5_push_38 rfl ?_
    obtain ⟨m7, e_m7, hf⟩ := bd_s hf
    refine pf_RX5_19 42 dX5_push_39 rfl t_a0 e_m7 ?_
    obtain rfl := Option.some.inj hf
    exact vv_vret dX5_push_42 rfl

theorem c_X5_push {w : Wo} {K : Kn} {a0 : Nat} {x1 : Int32} {x2 : Int64} {q : Mem} {m : Mem} (t_a0 : K a0 = some (.inl 4)) (hf : F_X5_push K m a0 x1 x2 = some q) : MM w K K yX5_push cX5_push 4 none rm_X5_push [.ref a0, .int x1, .long x2] m none q 0 0 :=
  mm_of (ini := false) (n := 0) (plainFor_of_name (by decide)) rfl (fun h => by first | rfl | cases h) (Nat.le_of_ble_eq_true rfl) rfl (v_X5_push_0 t_a0 hf)

set_option maxHeartbeats 4000000 in
theorem v_X7_gatherBlock_172 {w : Wo} {K : Kn} {a0 : Nat} {a1 : Nat} {x2 : Int32} {x3 : Int32} {x4 : Int32} {a5 : Nat} {a6 : Nat} {q : (Int32 × Mem)} (t_a0 : K a0 = some (.inl 6)) (t_a1 : K a1 = some (.inl 0)) (t_a5 : K a5 = some (.inl 5)) (t_a6 : K a6 = some (.inl 4)) {m : Mem} {x7 : Int32} (hf : f_X7_gatherBlock_172 K a0 a1 x2 x3 x4 a5 a6 m x7 = some q) : VV w RX7 cX7_gatherBlock 10 (some .int) rm_X7_gatherBlock false (QM w K (some (.int q.1)) q.2 0 0) K 172 [none, none, none, none, none, none, none, some (.int x7), none, none] [] 0 0 m := by
  unfold f_X7_gatherBlock_172 at hf
  refine vv_iload 174 dX7_gatherBlock_172 rfl rfl ?_
  obtain rfl := Option.some.inj hf
  exact vv_iret dX7_gatherBlock_174 rfl

set_option maxHeartbeats 4000000 in
theorem v_X7_gatherBlock_166 {w : Wo} {K : Kn} {a0 : Nat} {a1 : Nat} {x2 : Int32} {x3 : Int32} {x4 : Int32} {a5 : Nat} {a6 : Nat} {q : (Int32 × Mem)} (t_a0 : K a0 = some (.inl 6)) (t_a1 : K a1 = some (.inl 0)) (t_a5 : K a5 = some (.inl 5)) (t_a6 : K a6 = some (.inl 4)) (k13 : Mem → Int32 → Int32 → Option (Int32 × Mem)) (hk13 : ∀ (m : Mem) (x7 : Int32) (x8 : Int32), k13 m x7 x8 = some q → VV w RX7 cX7_gatherBlock 10 (some .int) rm_X7_gatherBlock false (QM w K (some (.int q.1)) q.2 0 0) K 13 [some (.ref a0), some (.ref a1), some (.int x2), some (.int x3), none, some (.ref a5), some (.ref a6), some (.int x7), some (.int x8), none] [] 0 0 m) {m : Mem} {x7 : Int32} {x8 : Int32} (hf : f_X7_gatherBlock_166 K a0 a1 x2 x3 x4 a5 a6 k13 m x7 x8 = some q) : VV w RX7 cX7_gatherBlock 10 (some .int) rm_X7_gatherBlock false (QM w K (some (.int q.1)) q.2 0 0) K 166 [some (.ref a0), some (.ref a1), some (.int x2), some (.int x3), none, some (.ref a5), some (.ref a6), some (.int x7), some (.int x8), none] [] 0 0 m := by
  unfold f_X7_gatherBlock_166 at hf
  obtain ⟨z1, e_z1, hf⟩ := bd_s hf
  refine vv_iincE (q := 169) (v := z1) (c := 1) (L' := [some (.ref a0), some (.ref a1), some (.int x2), some (.int x3), none, some (.ref a5), some (.ref a6), some (.int x7), some (.int z1), none]) e_z1 dX7_gatherBlock_166 rfl rfl (by decide) (Nat.le_of_ble_eq_true rfl) rfl ?_
  refine vv_goto 13 dX7_gatherBlock_169 (by decide) ?_
  exact hk13 _ _ _ hf

set_option maxHeartbeats 4000000 in
theorem v_X7_gatherBlock_151 {w : Wo} {K : Kn} {a0 : Nat} {a1 : Nat} {x2 : Int32} {x3 : Int32} {x4 : Int32} {a5 : Nat} {a6 : Nat} {q : (Int32 × Mem)} (t_a0 : K a0 = some (.inl 6)) (t_a1 : K a1 = some (.inl 0)) (t_a5 : K a5 = some (.inl 5)) (t_a6 : K a6 = some (.inl 4)) (k13 : Mem → Int32 → Int32 → Option (Int32 × Mem)) (hk13 : ∀ (m : Mem) (x7 : Int32) (x8 : Int32), k13 m x7 x8 = some q → VV w RX7 cX7_gatherBlock 10 (some .int) rm_X7_gatherBlock false (QM w K (some (.int q.1)) q.2 0 0) K 13 [some (.ref a0), some (.ref a1), some (.int x2), some (.int x3), none, some (.ref a5), some (.ref a6), some (.int x7), some (.int x8), none] [] 0 0 m) {m : Mem} {x7 : Int32} {x8 : Int32} {x9 : Int32} (hf : f_X7_gatherBlock_151 K a0 a1 x2 x3 x4 a5 a6 k13 m x7 x8 x9 = some q) : VV w RX7 cX7_gatherBlock 10 (some .int) rm_X7_gatherBlock false (QM w K (some (.int q.1)) q.2 0 0) K 151 [some (.ref a0), some (.ref a1), some (.int x2), some (.int x3), none, some (.ref a5), some (.ref a6), some (.int x7), some (.int x8), some (.int x9)] [] 0 0 m := by
  unfold f_X7_gatherBlock_151 at hf
  refine vv_aload 153 dX7_gatherBlock_151 rfl rfl ?_
  refine vv_iload 155 dX7_gatherBlock_153 rfl rfl ?_
  refine vv_aload 157 dX7_gatherBlock_155 rfl rfl ?_
  obtain ⟨b1, g_b1, hf⟩ := bind_s hf
  have t_b1 := (ldO_spec g_b1).2
  refine gf_RX7_138 160 dX7_gatherBlock_157 rfl t_a5 (ldO_spec g_b1).1 ?_
  refine gf_RX7_142 163 dX7_gatherBlock_160 rfl t_b1 ?_
  obtain ⟨q2, g_q2, hf⟩ := bind_s hf
  refine vv_callV 166 (st := []) (As := [.int x9, .long (gJ m b1 2)]) (stk2 := []) (cl2 := 0) (sl2 := 0) dX7_gatherBlock_163 rfl lk_RX7_126 w_712 w_713 rfl t_a6 ⟨(Nat.le_of_ble_eq_true rfl), (Nat.le_of_ble_eq_true rfl)⟩ rfl rfl ⟨(Nat.le_of_ble_eq_true rfl), (Nat.le_of_ble_eq_true rfl)⟩ rfl (Nat.le_of_ble_eq_true rfl) rfl rfl rfl rfl (c_X5_push t_a6 g_q2) ?_
  exact VV.lle (v_X7_gatherBlock_166 t_a0 t_a1 t_a5 t_a6 k13 hk13 hf) (lle_s (lle_s (lle_s (lle_s (lle_s (lle_s (lle_s (lle_s (lle_s (lle_n lle_nil))))))))))

set_option maxHeartbeats 4000000 in
theorem v_X7_gatherBlock_124 {w : Wo} {K : Kn} {a0 : Nat} {a1 : Nat} {x2 : Int32} {x3 : Int32} {x4 : Int32} {a5 : Nat} {a6 : Nat} {q : (Int32 × Mem)} (t_a0 : K a0 = some (.inl 6)) (t_a1 : K a1 = some (.inl 0)) (t_a5 : K a5 = some (.inl 5)) (t_a6 : K a6 = some (.inl 4)) (k13 : Mem → Int32 → Int32 → Option (Int32 × Mem)) (hk13 : ∀ (m : Mem) (x7 : Int32) (x8 : Int32), k13 m x7 x8 = some q → VV w RX7 cX7_gatherBlock 10 (some .int) rm_X7_gatherBlock false (QM w K (some (.int q.1)) q.2 0 0) K 13 [some (.ref a0), some (.ref a1), some (.int x2), some (.int x3), none, some (.ref a5), some (.ref a6), some (.int x7), some (.int x8), none] [] 0 0 m) {m : Mem} {x7 : Int32} {x8 : Int32} {x9 : Int32} (hf : f_X7_gatherBlock_124 K a0 a1 x2 x3 x4 a5 a6 k13 m x7 x8 x9 = some q) : VV w RX7 cX7_gatherBlock 10 (some .int) rm_X7_gatherBlock false (QM w K (some (.int q.1)) q.2 0 0) K 124 [some (.ref a0), some (.ref a1), some (.int x2), some (.int x3), none, some (.ref a5), some (.ref a6), some (.int x7), some (.int x8), some (.int x9)] [] 0 0 m := by
  unfold f_X7_gatherBlock_124 at hf
  refine vv_iload 126 dX7_gatherBlock_124 rfl rfl ?_
  refine vv_aload_n 127 dX7_gatherBlock_126 rfl rfl ?_
  obtain ⟨b1, g_b1, hf⟩ := bind_s hf
  have t_b1 := (ldO_spec g_b1).2
  refine gf_RX7_22 130 dX7_gatherBlock_127 rfl t_a0 (ldO_spec g_b1).1 ?_
  refine gf_RX7_48 133 dX7_gatherBlock_130 rfl t_b1 ?_
  refine vv_icmp_ge 151 136 dX7_gatherBlock_133 rfl (by decide) (fun c2 => ?_) (fun c2 => ?_)
  · rw [if_pos c2] at hf
    exact v_X7_gatherBlock_151 t_a0 t_a1 t_a5 t_a6 k13 hk13 hf
  · rw [if_neg c2] at hf
    refine vv_aload_n 137 dX7_gatherBlock_136 rfl rfl ?_
    obtain ⟨b3, g_b3, hf⟩ := bind_s hf
    have t_b3 := (ldO_spec g_b3).2
    refine gf_RX7_22 140 dX7_gatherBlock_137 rfl t_a0 (ldO_spec g_b3).1 ?_
    obtain ⟨b4, g_b4, hf⟩ := bind_s hf
    have t_b4 := (ldA_spec g_b4).2
    refine gf_RX7_119 143 dX7_gatherBlock_140 rfl t_b3 (ldA_spec g_b4).1 ?_
    refine vv_iload 145 dX7_gatherBlock_143 rfl rfl ?_
    obtain ⟨r5, g_r5, hf⟩ := bind_s hf
    refine vv_iald 146 dX7_gatherBlock_145 rfl t_b4 g_r5 ?_
    refine vv_iload 148 dX7_gatherBlock_146 rfl rfl ?_
    refine vv_icmp_eq 166 151 dX7_gatherBlock_148 rfl (by decide) (fun c6 => ?_) (fun c6 => ?_)
    · rw [if_pos c6] at hf
      exact VV.lle (v_X7_gatherBlock_166 t_a0 t_a1 t_a5 t_a6 k13 hk13 hf) (lle_s (lle_s (lle_s (lle_s (lle_s (lle_s (lle_s (lle_s (lle_s (lle_n lle_nil))))))))))
    · rw [if_neg c6] at hf
      exact v_X7_gatherBlock_151 t_a0 t_a1 t_a5 t_a6 k13 hk13 hf

set_option maxHeartbeats 4000000 in
theorem v_X7_gatherBlock_66B {w : Wo} {K : Kn} {a0 : Nat} {a1 : Nat} {x2 : Int32} {x3 : Int32} {x4 : Int32} {a5 : Nat} {a6 : Nat} {q : (Int32 × Mem)} (t_a0 : K a0 = some (.inl 6)) (t_a1 : K a1 = some (.inl 0)) (t_a5 : K a5 = some (.inl 5)) (t_a6 : K a6 = some (.inl 4)) (k13 : Mem → Int32 → Int32 → Option (Int32 × Mem)) (hk13 : ∀ (m : Mem) (x7 : Int32) (x8 : Int32), k13 m x7 x8 = some q → VV w RX7 cX7_gatherBlock 10 (some .int) rm_X7_gatherBlock false (QM w K (some (.int q.1)) q.2 0 0) K 13 [some (.ref a0), some (.ref a1), some (.int x2), some (.int x3), none, some (.ref a5), some (.ref a6), some (.int x7), some (.int x8), none] [] 0 0 m) (k66 : Mem → Int32 → Int32 → Int32 → Option (Int32 × Mem)) (hk66 : ∀ (m : Mem) (x7 : Int32) (x8 : Int32) (x9 : Int32), k66 m x7 x8 x9 = some q → VV w RX7 cX7_gatherBlock 10 (some .int) rm_X7_gatherBlock false (QM w K (some (.int q.1)) q.2 0 0) K 66 [some (.ref a0), some (.ref a1), some (.int x2), some (.int x3), none, some (.ref a5), some (.ref a6), some (.int x7), some (.int x8), some (.int x9)] [] 0 0 m) {m : Mem} {x7 : Int32} {x8 : Int32} {x9 : Int32} (hf : f_X7_gatherBlock_66B K a0 a1 x2 x3 x4 a5 a6 k13 k66 m x7 x8 x9 = some q) : VV w RX7 cX7_gatherBlock 10 (some .int) rm_X7_gatherBlock false (QM w K (some (.int q.1)) q.2 0 0) K 66 [some (.ref a0), some (.ref a1), some (.int x2), some (.int x3), none, some (.ref a5), some (.ref a6), some (.int x7), some (.int x8), some (.int x9)] [] 0 0 m := by
  unfold f_X7_gatherBlock_66B at hf
  refine vv_iload 68 dX7_gatherBlock_66 rfl rfl ?_
  refine vv_aload_n 69 dX7_gatherBlock_68 rfl rfl ?_
  obtain ⟨b1, g_b1, hf⟩ := bind_s hf
  have t_b1 := (ldO_spec g_b1).2
  refine gf_RX7_22 72 dX7_gatherBlock_69 rfl t_a0 (ldO_spec g_b1).1 ?_
  refine gf_RX7_48 75 dX7_gatherBlock_72 rfl t_b1 ?_
  refine vv_icmp_ge 124 78 dX7_gatherBlock_75 rfl (by decide) (fun c2 => ?_) (fun c2 => ?_)
  · rw [if_pos c2] at hf
    exact v_X7_gatherBlock_124 t_a0 t_a1 t_a5 t_a6 k13 hk13 hf
  · rw [if_neg c2] at hf
    refine vv_aload_n 79 dX7_gatherBlock_78 rfl rfl ?_
    obtain ⟨b3, g_b3, hf⟩ := bind_s hf
    have t_b3 := (ldO_spec g_b3).2
    refine gf_RX7_22 82 dX7_gatherBlock_79 rfl t_a0 (ldO_spec g_b3).1 ?_
    obtain ⟨b4, g_b4, hf⟩ := bind_s hf
    have t_b4 := (ldA_spec g_b4).2
    refine gf_RX7_119 85 dX7_gatherBlock_82 rfl t_b3 (ldA_spec g_b4).1 ?_
    refine vv_iload 87 dX7_gatherBlock_85 rfl rfl ?_
    obtain ⟨r5, g_r5, hf⟩ := bind_s hf
    refine vv_iald 88 dX7_gatherBlock_87 rfl t_b4 g_r5 ?_
    refine vv_iload 90 dX7_gatherBlock_88 rfl rfl ?_
    refine vv_icmp_ge 124 93 dX7_gatherBlock_90 rfl (by decide) (fun c6 => ?_) (fun c6 => ?_)
    · rw [if_pos c6] at hf
      exact v_X7_gatherBlock_124 t_a0 t_a1 t_a5 t_a6 k13 hk13 hf
    · rw [if_neg c6] at hf
      refine vv_aload 95 dX7_gatherBlock_93 rfl rfl ?_
      refine vv_aload_n 96 dX7_gatherBlock_95 rfl rfl ?_
      obtain ⟨b7, g_b7, hf⟩ := bind_s hf
      have t_b7 := (ldO_spec g_b7).2
      refine gf_RX7_22 99 dX7_gatherBlock_96 rfl t_a0 (ldO_spec g_b7).1 ?_
      obtain ⟨b8, g_b8, hf⟩ := bind_s hf
      have t_b8 := (ldA_spec g_b8).2
      refine gf_RX7_119 102 dX7_gatherBlock_99 rfl t_b7 (ldA_spec g_b8).1 ?_
      refine vv_iload 104 dX7_gatherBlock_102 rfl rfl ?_
      obtain ⟨r9, g_r9, hf⟩ := bind_s hf
      refine vv_iald 105 dX7_gatherBlock_104 rfl t_b8 g_r9 ?_
      refine vv_aload_n 106 dX7_gatherBlock_105 rfl rfl ?_
      obtain ⟨b10, g_b10, hf⟩ := bind_s hf
      have t_b10 := (ldO_spec g_b10).2
      refine gf_RX7_22 109 dX7_gatherBlock_106 rfl t_a0 (ldO_spec g_b10).1 ?_
      obtain ⟨b11, g_b11, hf⟩ := bind_s hf
      have t_b11 := (ldA_spec g_b11).2
      refine gf_RX7_123 112 dX7_gatherBlock_109 rfl t_b10 (ldA_spec g_b11).1 ?_
      refine vv_iload 114 dX7_gatherBlock_112 rfl rfl ?_
      obtain ⟨r12, g_r12, hf⟩ := bind_s hf
      refine vv_lald 115 dX7_gatherBlock_114 rfl t_b11 g_r12 ?_
      obtain ⟨q13, g_q13, hf⟩ := bind_s hf
      refine vv_callV 118 (st := []) (As := [.int r9, .long r12]) (stk2 := []) (cl2 := 0) (sl2 := 0) dX7_gatherBlock_115 rfl lk_RX7_126 w_712 w_713 rfl t_a6 ⟨(Nat.le_of_ble_eq_true rfl), (Nat.le_of_ble_eq_true rfl)⟩ rfl rfl ⟨(Nat.le_of_ble_eq_true rfl), (Nat.le_of_ble_eq_true rfl)⟩ rfl (Nat.le_of_ble_eq_true rfl) rfl rfl rfl rfl (c_X5_push t_a6 g_q13) ?_
      obtain ⟨z14, e_z14, hf⟩ := bd_s hf
      refine vv_iincE (q := 121) (v := z14) (c := 1) (L' := [some (.ref a0), some (.ref a1), some (.int x2), some (.int x3), none, some (.ref a5), some (.ref a6), some (.int z14), some (.int x8), some (.int x9)]) e_z14 dX7_gatherBlock_118 rfl rfl (by decide) (Nat.le_of_ble_eq_true rfl) rfl ?_
      refine vv_goto 66 dX7_gatherBlock_121 (by decide) ?_
      exact hk66 _ _ _ _ hf

theorem v_X7_gatherBlock_66 {w : Wo} {K : Kn} {a0 : Nat} {a1 : Nat} {x2 : Int32} {x3 : Int32} {x4 : Int32} {a5 : Nat} {a6 : Nat} {q : (Int32 × Mem)} (t_a0 : K a0 = some (.inl 6)) (t_a1 : K a1 = some (.inl 0)) (t_a5 : K a5 = some (.inl 5)) (t_a6 : K a6 = some (.inl 4)) (k13 : Mem → Int32 → Int32 → Option (Int32 × Mem)) (hk13 : ∀ (m : Mem) (x7 : Int32) (x8 : Int32), k13 m x7 x8 = some q → VV w RX7 cX7_gatherBlock 10 (some .int) rm_X7_gatherBlock false (QM w K (some (.int q.1)) q.2 0 0) K 13 [some (.ref a0), some (.ref a1), some (.int x2), some (.int x3), none, some (.ref a5), some (.ref a6), some (.int x7), some (.int x8), none] [] 0 0 m) : ∀ (n : Nat) (m : Mem) (x7 : Int32) (x8 : Int32) (x9 : Int32), f_X7_gatherBlock_66 K a0 a1 x2 x3 x4 a5 a6 k13 n m x7 x8 x9 = some q → VV w RX7 cX7_gatherBlock 10 (some .int) rm_X7_gatherBlock false (QM w K (some (.int q.1)) q.2 0 0) K 66 [some (.ref a0), some (.ref a1), some (.int x2), some (.int x3), none, some (.ref a5), some (.ref a6), some (.int x7), some (.int x8), some (.int x9)] [] 0 0 m := by
  intro n
  induction n with
  | zero => intro m x7 x8 x9 hf; cases hf
  | succ n ih => intro m x7 x8 x9 hf; exact v_X7_gatherBlock_66B (a0 := a0) (a1 := a1) (x2 := x2) (x3 := x3) (x4 := x4) (a5 := a5) (a6 := a6) t_a0 t_a1 t_a5 t_a6 k13 hk13 (f_X7_gatherBlock_66 K a0 a1 x2 x3 x4 a5 a6 k13 n) ih hf

set_option maxHeartbeats 4000000 in
theorem v_X7_gatherBlock_38 {w : Wo} {K : Kn} {a0 : Nat} {a1 : Nat} {x2 : Int32} {x3 : Int32} {x4 : Int32} {a5 : Nat} {a6 : Nat} {q : (Int32 × Mem)} (t_a0 : K a0 = some (.inl 6)) (t_a1 : K a1 = some (.inl 0)) (t_a5 : K a5 = some (.inl 5)) (t_a6 : K a6 = some (.inl 4)) (k13 : Mem → Int32 → Int32 → Option (Int32 × Mem)) (hk13 : ∀ (m : Mem) (x7 : Int32) (x8 : Int32), k13 m x7 x8 = some q → VV w RX7 cX7_gatherBlock 10 (some .int) rm_X7_gatherBlock false (QM w K (some (.int q.1)) q.2 0 0) K 13 [some (.ref a0), some (.ref a1), some (.int x2), some (.int x3), none, some (.ref a5), some (.ref a6), some (.int x7), some (.int x8), none] [] 0 0 m) {m : Mem} {x7 : Int32} {x8 : Int32} (hf : f_X7_gatherBlock_38 K a0 a1 x2 x3 x4 a5 a6 k13 m x7 x8 = some q) : VV w RX7 cX7_gatherBlock 10 (some .int) rm_X7_gatherBlock false (QM w K (some (.int q.1)) q.2 0 0) K 38 [some (.ref a0), some (.ref a1), some (.int x2), some (.int x3), none, some (.ref a5), some (.ref a6), some (.int x7), some (.int x8), none] [] 0 0 m := by
  unfold f_X7_gatherBlock_38 at hf
  refine vv_aload 40 dX7_gatherBlock_38 rfl rfl ?_
  obtain ⟨b1, g_b1, hf⟩ := bind_s hf
  have t_b1 := (ldO_spec g_b1).2
  refine gf_RX7_138 43 dX7_gatherBlock_40 rfl t_a5 (ldO_spec g_b1).1 ?_
  refine gf_RX7_139 46 dX7_gatherBlock_43 rfl t_b1 ?_
  obtain ⟨z2, e_z2, hf⟩ := bd_s hf
  refine vv_istoreE (q := 48) (v := z2) (L' := [some (.ref a0), some (.ref a1), some (.int x2), some (.int x3), none, some (.ref a5), some (.ref a6), some (.int x7), some (.int x8), some (.int z2)]) e_z2 dX7_gatherBlock_46 rfl (Nat.le_of_ble_eq_true rfl) rfl ?_
  refine vv_iload 50 dX7_gatherBlock_48 rfl rfl ?_
  refine vv_iload_n 51 dX7_gatherBlock_50 rfl rfl ?_
  refine vv_icmp_le 57 54 dX7_gatherBlock_51 rfl (by decide) (fun c3 => ?_) (fun c3 => ?_)
  · rw [if_pos c3] at hf
    refine vv_iload 59 dX7_gatherBlock_57 rfl rfl ?_
    refine vv_iload_n 60 dX7_gatherBlock_59 rfl rfl ?_
    refine vv_icmp_ge 66 63 dX7_gatherBlock_60 rfl (by decide) (fun c4 => ?_) (fun c4 => ?_)
    · rw [if_pos c4] at hf
      exact v_X7_gatherBlock_66 t_a0 t_a1 t_a5 t_a6 k13 hk13 FU _ _ _ _ hf
    · rw [if_neg c4] at hf
      refine vv_goto 166 dX7_gatherBlock_63 (by decide) ?_
      exact VV.lle (v_X7_gatherBlock_166 t_a0 t_a1 t_a5 t_a6 k13 hk13 hf) (lle_s (lle_s (lle_s (lle_s (lle_s (lle_s (lle_s (lle_s (lle_s (lle_n lle_nil))))))))))
  · rw [if_neg c3] at hf
    refine vv_goto 172 dX7_gatherBlock_54 (by decide) ?_
    exact VV.lle (v_X7_gatherBlock_172 t_a0 t_a1 t_a5 t_a6 hf) (lle_n (lle_n (lle_n (lle_n (lle_s (lle_n (lle_n (lle_s (lle_n (lle_n lle_nil))))))))))

set_option maxHeartbeats 4000000 in
theorem v_X7_gatherBlock_13B {w : Wo} {K : Kn} {a0 : Nat} {a1 : Nat} {x2 : Int32} {x3 : Int32} {x4 : Int32} {a5 : Nat} {a6 : Nat} {q : (Int32 × Mem)} (t_a0 : K a0 = some (.inl 6)) (t_a1 : K a1 = some (.inl 0)) (t_a5 : K a5 = some (.inl 5)) (t_a6 : K a6 = some (.inl 4)) (k13 : Mem → Int32 → Int32 → Option (Int32 × Mem)) (hk13 : ∀ (m : Mem) (x7 : Int32) (x8 : Int32), k13 m x7 x8 = some q → VV w RX7 cX7_gatherBlock 10 (some .int) rm_X7_gatherBlock false (QM w K (some (.int q.1)) q.2 0 0) K 13 [some (.ref a0), some (.ref a1), some (.int x2), some (.int x3), none, some (.ref a5), some (.ref a6), some (.int x7), some (.int x8), none] [] 0 0 m) {m : Mem} {x7 : Int32} {x8 : Int32} (hf : f_X7_gatherBlock_13B K a0 a1 x2 x3 x4 a5 a6 k13 m x7 x8 = some q) : VV w RX7 cX7_gatherBlock 10 (some .int) rm_X7_gatherBlock false (QM w K (some (.int q.1)) q.2 0 0) K 13 [some (.ref a0), some (.ref a1), some (.int x2), some (.int x3), none, some (.ref a5), some (.ref a6), some (.int x7), some (.int x8), none] [] 0 0 m := by
  unfold f_X7_gatherBlock_13B at hf
  refine vv_iload 15 dX7_gatherBlock_13 rfl rfl ?_
  refine vv_aload_n 16 dX7_gatherBlock_15 rfl rfl ?_
  refine gf_RX7_104 19 dX7_gatherBlock_16 rfl t_a1 ?_
  refine vv_icmp_ge 172 22 dX7_gatherBlock_19 rfl (by decide) (fun c1 => ?_) (fun c1 => ?_)
  · rw [if_pos c1] at hf
    exact VV.lle (v_X7_gatherBlock_172 t_a0 t_a1 t_a5 t_a6 hf) (lle_n (lle_n (lle_n (lle_n (lle_s (lle_n (lle_n (lle_s (lle_n (lle_s lle_nil))))))))))
  · rw [if_neg c1] at hf
    refine vv_iload 24 dX7_gatherBlock_22 rfl rfl ?_
    refine vv_if_le 38 27 dX7_gatherBlock_24 rfl (by decide) (fun c2 => ?_) (fun c2 => ?_)
    · rw [if_pos c2] at hf
      exact v_X7_gatherBlock_38 t_a0 t_a1 t_a5 t_a6 k13 hk13 hf
    · rw [if_neg c2] at hf
      refine vv_aload 29 dX7_gatherBlock_27 rfl rfl ?_
      obtain ⟨q3, g_q3, hf⟩ := bind_s hf
      refine vv_callV 32 (st := []) (As := []) (stk2 := [.int q3.1]) (cl2 := 0) (sl2 := 0) dX7_gatherBlock_29 rfl lk_RX7_134 w_638 w_639 rfl t_a5 ⟨(Nat.le_of_ble_eq_true rfl), (Nat.le_of_ble_eq_true rfl)⟩ rfl rfl ⟨(Nat.le_of_ble_eq_true rfl), (Nat.le_of_ble_eq_true rfl)⟩ rfl (Nat.le_of_ble_eq_true rfl) rfl rfl rfl rfl (c_X6_read t_a5 g_q3) ?_
      refine vv_if_eq 38 35 dX7_gatherBlock_32 rfl (by decide) (fun c4 => ?_) (fun c4 => ?_)
      · rw [if_pos c4] at hf
        exact v_X7_gatherBlock_38 t_a0 t_a1 t_a5 t_a6 k13 hk13 hf
      · rw [if_neg c4] at hf
        refine vv_goto 172 dX7_gatherBlock_35 (by decide) ?_
        exact VV.lle (v_X7_gatherBlock_172 t_a0 t_a1 t_a5 t_a6 hf) (lle_n (lle_n (lle_n (lle_n (lle_s (lle_n (lle_n (lle_s (lle_n (lle_s lle_nil))))))))))

theorem v_X7_gatherBlock_13 {w : Wo} {K : Kn} {a0 : Nat} {a1 : Nat} {x2 : Int32} {x3 : Int32} {x4 : Int32} {a5 : Nat} {a6 : Nat} {q : (Int32 × Mem)} (t_a0 : K a0 = some (.inl 6)) (t_a1 : K a1 = some (.inl 0)) (t_a5 : K a5 = some (.inl 5)) (t_a6 : K a6 = some (.inl 4)) : ∀ (n : Nat) (m : Mem) (x7 : Int32) (x8 : Int32), f_X7_gatherBlock_13 K a0 a1 x2 x3 x4 a5 a6 n m x7 x8 = some q → VV w RX7 cX7_gatherBlock 10 (some .int) rm_X7_gatherBlock false (QM w K (some (.int q.1)) q.2 0 0) K 13 [some (.ref a0), some (.ref a1), some (.int x2), some (.int x3), none, some (.ref a5), some (.ref a6), some (.int x7), some (.int x8), none] [] 0 0 m := by
  intro n
  induction n with
  | zero => intro m x7 x8 hf; cases hf
  | succ n ih => intro m x7 x8 hf; exact v_X7_gatherBlock_13B (a0 := a0) (a1 := a1) (x2 := x2) (x3 := x3) (x4 := x4) (a5 := a5) (a6 := a6) t_a0 t_a1 t_a5 t_a6 (f_X7_gatherBlock_13 K a0 a1 x2 x3 x4 a5 a6 n) ih hf

set_option maxHeartbeats 4000000 in
theorem v_X7_gatherBlock_0 {w : Wo} {K : Kn} {a0 : Nat} {a1 : Nat} {x2 : Int32} {x3 : Int32} {x4 : Int32} {a5 : Nat} {a6 : Nat} {q : (Int32 × Mem)} (t_a0 : K a0 = some (.inl 6)) (t_a1 : K a1 = some (.inl 0)) (t_a5 : K a5 = some (.inl 5)) (t_a6 : K a6 = some (.inl 4)) {m : Mem} (hf : f_X7_gatherBlock K a0 a1 x2 x3 x4 a5 a6 m = some q) : VV w RX7 cX7_gatherBlock 10 (some .int) rm_X7_gatherBlock false (QM w K (some (.int q.1)) q.2 0 0) K 0 [some (.ref a0), some (.ref a1), some (.int x2), some (.int x3), some (.int x4), some (.ref a5), some (.ref a6), none, none, none] [] 0 0 m := by
  unfold f_X7_gatherBlock at hf
  refine vv_iload 2 dX7_gatherBlock_0 rfl rfl ?_
  refine vv_istore 4 (L' := [some (.ref a0), some (.ref a1), some (.int x2), some (.int x3), some (.int x4), some (.ref a5), some (.ref a6), some (.int x4), none, none]) dX7_gatherBlock_2 rfl (Nat.le_of_ble_eq_true rfl) rfl ?_
  refine vv_aload 6 dX7_gatherBlock_4 rfl rfl ?_
  refine vv_aload_n 7 dX7_gatherBlock_6 rfl rfl ?_
  obtain ⟨q1, g_q1, hf⟩ := bind_s hf
  refine vv_callV 10 (st := []) (As := [.ref a1]) (stk2 := []) (cl2 := 0) (sl2 := 0) dX7_gatherBlock_7 rfl lk_RX7_129 w_628 w_629 rfl t_a5 ⟨(Nat.le_of_ble_eq_true rfl), (Nat.le_of_ble_eq_true rfl)⟩ rfl rfl ⟨(Nat.le_of_ble_eq_true rfl), (Nat.le_of_ble_eq_true rfl)⟩ rfl (Nat.le_of_ble_eq_true rfl) rfl rfl rfl rfl (c_X6_open t_a5 t_a1 g_q1) ?_
  refine vv_iconst 11 (v := 0) dX7_gatherBlock_10 rfl (by decide) ?_
  refine vv_istore 13 (L' := [some (.ref a0), some (.ref a1), some (.int x2), some (.int x3), some (.int x4), some (.ref a5), some (.ref a6), some (.int x4), some (.int (0 : Int32)), none]) dX7_gatherBlock_11 rfl (Nat.le_of_ble_eq_true rfl) rfl ?_
  exact VV.lle (v_X7_gatherBlock_13 t_a0 t_a1 t_a5 t_a6 FU _ _ _ hf) (lle_s (lle_s (lle_s (lle_s (lle_n (lle_s (lle_s (lle_s (lle_s (lle_s lle_nil))))))))))

theorem c_X7_gatherBlock {w : Wo} {K : Kn} {a0 : Nat} {a1 : Nat} {x2 : Int32} {x3 : Int32} {x4 : Int32} {a5 : Nat} {a6 : Nat} {q : (Int32 × Mem)} {m : Mem} (t_a0 : K a0 = some (.inl 6)) (t_a1 : K a1 = some (.inl 0)) (t_a5 : K a5 = some (.inl 5)) (t_a6 : K a6 = some (.inl 4)) (hf : F_X7_gatherBlock K m a0 a1 x2 x3 x4 a5 a6 = some q) : MM w K K yX7_gatherBlock cX7_gatherBlock 10 (some .int) rm_X7_gatherBlock [.ref a0, .ref a1, .int x2, .int x3, .int x4, .ref a5, .ref a6] m (some (.int q.1)) q.2 0 0 :=
  mm_of (ini := false) (n := 3) (plainFor_of_name (by decide)) rfl (fun h => by first | rfl | cases h) (Nat.le_of_ble_eq_true rfl) rfl (v_X7_gatherBlock_0 t_a0 t_a1 t_a5 t_a6 hf)

set_option maxHeartbeats 4000000 in
theorem v_X7_gather_63 {w : Wo} {K : Kn} {a0 : Nat} {x1 : Int32} {x2 : Int32} {a3 : Nat} {a4 : Nat} {q : Mem} (t_a0 : K a0 = some (.inl 6)) (t_a3 : K a3 = some (.inl 5)) (t_a4 : K a4 = some (.inl 4)) (k19 : Mem → Int32 → Int32 → Option Mem) (hk19 : ∀ (m : Mem) (x5 : Int32) (x6 : Int32), k19 m x5 x6 = some q → VV w RX7 cX7_gather 7 none rm_X7_gather false (QM w K none q 0 0) K 19 [some (.ref a0), some (.int x1), some (.int x2), some (.ref a3), some (.ref a4), some (.int x5), some (.int x6)] [] 0 0 m) {m : Mem} {x5 : Int32} {x6 : Int32} (hf : f_X7_gather_63 K a0 x1 x2 a3 a4 k19 m x5 x6 = some q) : VV w RX7 cX7_gather 7 none rm_X7_gather false (QM w K none q 0 0) K 63 [some (.ref a0), some (.int x1), some (.int x2), some (.ref a3), some (.ref a4), some (.int x5), some (.int x6)] [] 0 0 m := by
  unfold f_X7_gather_63 at hf
  obtain ⟨z1, e_z1, hf⟩ := bd_s hf
  refine vv_iincE (q := 66) (v := z1) (c := 1) (L' := [some (.ref a0), some (.int x1), some (.int x2), some (.ref a3), some (.ref a4), some (.int x5), some (.int z1)]) e_z1 dX7_gather_63 rfl rfl (by decide) (Nat.le_of_ble_eq_true rfl) rfl ?_
  refine vv_goto 19 dX7_gather_66 (by decide) ?_
  exact hk19 _ _ _ hf

set_option maxHeartbeats 4000000 in
theorem v_X7_gather_69B {w : Wo} {K : Kn} {a0 : Nat} {x1 : Int32} {x2 : Int32} {a3 : Nat} {a4 : Nat} {q : Mem} (t_a0 : K a0 = some (.inl 6)) (t_a3 : K a3 = some (.inl 5)) (t_a4 : K a4 = some (.inl 4)) (k69 : Mem → Int32 → Option Mem) (hk69 : ∀ (m : Mem) (x5 : Int32), k69 m x5 = some q → VV w RX7 cX7_gather 7 none rm_X7_gather false (QM w K none q 0 0) K 69 [some (.ref a0), none, some (.int x2), none, some (.ref a4), some (.int x5), none] [] 0 0 m) {m : Mem} {x5 : Int32} (hf : f_X7_gather_69B K a0 x1 x2 a3 a4 k69 m x5 = some q) : VV w RX7 cX7_gather 7 none rm_X7_gather false (QM w K none q 0 0) K 69 [some (.ref a0), none, some (.int x2), none, some (.ref a4), some (.int x5), none] [] 0 0 m := by
  unfold f_X7_gather_69B at hf
  refine vv_iload 71 dX7_gather_69 rfl rfl ?_
  refine vv_aload_n 72 dX7_gather_71 rfl rfl ?_
  obtain ⟨b1, g_b1, hf⟩ := bind_s hf
  have t_b1 := (ldO_spec g_b1).2
  refine gf_RX7_22 75 dX7_gather_72 rfl t_a0 (ldO_spec g_b1).1 ?_
  refine gf_RX7_48 78 dX7_gather_75 rfl t_b1 ?_
  refine vv_icmp_ge 126 81 dX7_gather_78 rfl (by decide) (fun c2 => ?_) (fun c2 => ?_)
  · rw [if_pos c2] at hf
    obtain rfl := Option.some.inj hf
    exact vv_vret dX7_gather_126 rfl
  · rw [if_neg c2] at hf
    refine vv_aload_n 82 dX7_gather_81 rfl rfl ?_
    obtain ⟨b3, g_b3, hf⟩ := bind_s hf
    have t_b3 := (ldO_spec g_b3).2
    refine gf_RX7_22 85 dX7_gather_82 rfl t_a0 (ldO_spec g_b3).1 ?_
    obtain ⟨b4, g_b4, hf⟩ := bind_s hf
    have t_b4 := (ldA_spec g_b4).2
    refine gf_RX7_119 88 dX7_gather_85 rfl t_b3 (ldA_spec g_b4).1 ?_
    refine vv_iload 90 dX7_gather_88 rfl rfl ?_
    obtain ⟨r5, g_r5, hf⟩ := bind_s hf
    refine vv_iald 91 dX7_gather_90 rfl t_b4 g_r5 ?_
    refine vv_iload_n 92 dX7_gather_91 rfl rfl ?_
    refine vv_icmp_gt 126 95 dX7_gather_92 rfl (by decide) (fun c6 => ?_) (fun c6 => ?_)
    · rw [if_pos c6] at hf
      obtain rfl := Option.some.inj hf
      exact vv_vret dX7_gather_126 rfl
    · rw [if_neg c6] at hf
      refine vv_aload 97 dX7_gather_95 rfl rfl ?_
      refine vv_aload_n 98 dX7_gather_97 rfl rfl ?_
      obtain ⟨b7, g_b7, hf⟩ := bind_s hf
      have t_b7 := (ldO_spec g_b7).2
      refine gf_RX7_22 101 dX7_gather_98 rfl t_a0 (ldO_spec g_b7).1 ?_
      obtain ⟨b8, g_b8, hf⟩ := bind_s hf
      have t_b8 := (ldA_spec g_b8).2
      refine gf_RX7_119 104 dX7_gather_101 rfl t_b7 (ldA_spec g_b8).1 ?_
      refine vv_iload 106 dX7_gather_104 rfl rfl ?_
      obtain ⟨r9, g_r9, hf⟩ := bind_s hf
      refine vv_iald 107 dX7_gather_106 rfl t_b8 g_r9 ?_
      refine vv_aload_n 108 dX7_gather_107 rfl rfl ?_
      obtain ⟨b10, g_b10, hf⟩ := bind_s hf
      have t_b10 := (ldO_spec g_b10).2
      refine gf_RX7_22 111 dX7_gather_108 rfl t_a0 (ldO_spec g_b10).1 ?_
      obtain ⟨b11, g_b11, hf⟩ := bind_s hf
      have t_b11 := (ldA_spec g_b11).2
      refine gf_RX7_123 114 dX7_gather_111 rfl t_b10 (ldA_spec g_b11).1 ?_
      refine vv_iload 116 dX7_gather_114 rfl rfl ?_
      obtain ⟨r12, g_r12, hf⟩ := bind_s hf
      refine vv_lald 117 dX7_gather_116 rfl t_b11 g_r12 ?_
      obtain ⟨q13, g_q13, hf⟩ := bind_s hf
      refine vv_callV 120 (st := []) (As := [.int r9, .long r12]) (stk2 := []) (cl2 := 0) (sl2 := 0) dX7_gather_117 rfl lk_RX7_126 w_712 w_713 rfl t_a4 ⟨(Nat.le_of_ble_eq_true rfl), (Nat.le_of_ble_eq_true rfl)⟩ rfl rfl ⟨(Nat.le_of_ble_eq_true rfl), (Nat.le_of_ble_eq_true rfl)⟩ rfl (Nat.le_of_ble_eq_true rfl) rfl rfl rfl rfl (c_X5_push t_a4 g_q13) ?_
      obtain ⟨z14, e_z14, hf⟩ := bd_s hf
      refine vv_iincE (q := 123) (v := z14) (c := 1) (L' := [some (.ref a0), none, some (.int x2), none, some (.ref a4), some (.int z14), none]) e_z14 dX7_gather_120 rfl rfl (by decide) (Nat.le_of_ble_eq_true rfl) rfl ?_
      refine vv_goto 69 dX7_gather_123 (by decide) ?_
      exact hk69 _ _ hf

theorem v_X7_gather_69 {w : Wo} {K : Kn} {a0 : Nat} {x1 : Int32} {x2 : Int32} {a3 : Nat} {a4 : Nat} {q : Mem} (t_a0 : K a0 = some (.inl 6)) (t_a3 : K a3 = some (.inl 5)) (t_a4 : K a4 = some (.inl 4)) : ∀ (n : Nat) (m : Mem) (x5 : Int32), f_X7_gather_69 K a0 x1 x2 a3 a4 n m x5 = some q → VV w RX7 cX7_gather 7 none rm_X7_gather false (QM w K none q 0 0) K 69 [some (.ref a0), none, some (.int x2), none, some (.ref a4), some (.int x5), none] [] 0 0 m := by
  intro n
  induction n with
  | zero => intro m x5 hf; cases hf
  | succ n ih => intro m x5 hf; exact v_X7_gather_69B (a0 := a0) (x1 := x1) (x2 := x2) (a3 := a3) (a4 := a4) t_a0 t_a3 t_a4 (f_X7_gather_69 K a0 x1 x2 a3 a4 n) ih hf

set_option maxHeartbeats 4000000 in
theorem v_X7_gather_19B {w : Wo} {K : Kn} {a0 : Nat} {x1 : Int32} {x2 : Int32} {a3 : Nat} {a4 : Nat} {q : Mem} (t_a0 : K a0 = some (.inl 6)) (t_a3 : K a3 = some (.inl 5)) (t_a4 : K a4 = some (.inl 4)) (k19 : Mem → Int32 → Int32 → Option Mem) (hk19 : ∀ (m : Mem) (x5 : Int32) (x6 : Int32), k19 m x5 x6 = some q → VV w RX7 cX7_gather 7 none rm_X7_gather false (QM w K none q 0 0) K 19 [some (.ref a0), some (.int x1), some (.int x2), some (.ref a3), some (.ref a4), some (.int x5), some (.int x6)] [] 0 0 m) {m : Mem} {x5 : Int32} {x6 : Int32} (hf : f_X7_gather_19B K a0 x1 x2 a3 a4 k19 m x5 x6 = some q) : VV w RX7 cX7_gather 7 none rm_X7_gather false (QM w K none q 0 0) K 19 [some (.ref a0), some (.int x1), some (.int x2), some (.ref a3), some (.ref a4), some (.int x5), some (.int x6)] [] 0 0 m := by
  unfold f_X7_gather_19B at hf
  refine vv_iload 21 dX7_gather_19 rfl rfl ?_
  refine vv_aload_n 22 dX7_gather_21 rfl rfl ?_
  refine gf_RX7_45 25 dX7_gather_22 rfl t_a0 ?_
  refine vv_icmp_ge 69 28 dX7_gather_25 rfl (by decide) (fun c1 => ?_) (fun c1 => ?_)
  · rw [if_pos c1] at hf
    exact VV.lle (v_X7_gather_69 t_a0 t_a3 t_a4 FU _ _ hf) (lle_s (lle_n (lle_s (lle_n (lle_s (lle_s (lle_n lle_nil)))))))
  · rw [if_neg c1] at hf
    refine vv_aload_n 29 dX7_gather_28 rfl rfl ?_
    obtain ⟨b2, g_b2, hf⟩ := bind_s hf
    have t_b2 := (ldA_spec g_b2).2
    refine gf_RX7_11 32 dX7_gather_29 rfl t_a0 (ldA_spec g_b2).1 ?_
    refine vv_iload 34 dX7_gather_32 rfl rfl ?_
    obtain ⟨b3, g_b3, hf⟩ := bind_s hf
    have t_b3 := (alO_spec g_b3).2
    refine vv_aald4 35 dX7_gather_34 rfl t_b2 g_b3 ?_
    refine vv_iload_n 36 dX7_gather_35 rfl rfl ?_
    refine vv_iload_n 37 dX7_gather_36 rfl rfl ?_
    obtain ⟨q4, g_q4, hf⟩ := bind_s hf
    refine vv_callV 40 (st := []) (As := [.int x1, .int x2]) (stk2 := [.int q4]) (cl2 := 0) (sl2 := 0) dX7_gather_37 rfl lk_RX7_108 w_702 w_703 rfl t_b3 ⟨(Nat.le_of_ble_eq_true rfl), (Nat.le_of_ble_eq_true rfl)⟩ rfl rfl ⟨(Nat.le_of_ble_eq_true rfl), (Nat.le_of_ble_eq_true rfl)⟩ rfl (Nat.le_of_ble_eq_true rfl) rfl rfl rfl rfl (c_X0_touches t_b3 g_q4) ?_
    refine vv_if_eq 63 43 dX7_gather_40 rfl (by decide) (fun c5 => ?_) (fun c5 => ?_)
    · rw [if_pos c5] at hf
      exact v_X7_gather_63 t_a0 t_a3 t_a4 k19 hk19 hf
    · rw [if_neg c5] at hf
      refine vv_aload_n 44 dX7_gather_43 rfl rfl ?_
      refine vv_aload_n 45 dX7_gather_44 rfl rfl ?_
      obtain ⟨b6, g_b6, hf⟩ := bind_s hf
      have t_b6 := (ldA_spec g_b6).2
      refine gf_RX7_11 48 dX7_gather_45 rfl t_a0 (ldA_spec g_b6).1 ?_
      refine vv_iload 50 dX7_gather_48 rfl rfl ?_
      obtain ⟨b7, g_b7, hf⟩ := bind_s hf
      have t_b7 := (alO_spec g_b7).2
      refine vv_aald4 51 dX7_gather_50 rfl t_b6 g_b7 ?_
      refine vv_iload_n 52 dX7_gather_51 rfl rfl ?_
      refine vv_iload_n 53 dX7_gather_52 rfl rfl ?_
      refine vv_iload 55 dX7_gather_53 rfl rfl ?_
      refine vv_aload_n 56 dX7_gather_55 rfl rfl ?_
      refine vv_aload 58 dX7_gather_56 rfl rfl ?_
      obtain ⟨q8, g_q8, hf⟩ := bind_s hf
      refine vv_callV 61 (st := []) (As := [.ref b7, .int x1, .int x2, .int x5, .ref a3, .ref a4]) (stk2 := [.int q8.1]) (cl2 := 0) (sl2 := 0) dX7_gather_58 rfl lk_RX7_115 w_707 w_12 rfl t_a0 ⟨(Nat.le_of_ble_eq_true rfl), (Nat.le_of_ble_eq_true rfl)⟩ rfl rfl ⟨(Nat.le_of_ble_eq_true rfl), (Nat.le_of_ble_eq_true rfl)⟩ rfl (Nat.le_of_ble_eq_true rfl) rfl rfl rfl rfl (c_X7_gatherBlock t_a0 t_b7 t_a3 t_a4 g_q8) ?_
      obtain ⟨z9, e_z9, hf⟩ := bd_s hf
      refine vv_istoreE (q := 63) (v := z9) (L' := [some (.ref a0), some (.int x1), some (.int x2), some (.ref a3), some (.ref a4), some (.int z9), some (.int x6)]) e_z9 dX7_gather_61 rfl (Nat.le_of_ble_eq_true rfl) rfl ?_
      exact v_X7_gather_63 t_a0 t_a3 t_a4 k19 hk19 hf

theorem v_X7_gather_19 {w : Wo} {K : Kn} {a0 : Nat} {x1 : Int32} {x2 : Int32} {a3 : Nat} {a4 : Nat} {q : Mem} (t_a0 : K a0 = some (.inl 6)) (t_a3 : K a3 = some (.inl 5)) (t_a4 : K a4 = some (.inl 4)) : ∀ (n : Nat) (m : Mem) (x5 : Int32) (x6 : Int32), f_X7_gather_19 K a0 x1 x2 a3 a4 n m x5 x6 = some q → VV w RX7 cX7_gather 7 none rm_X7_gather false (QM w K none q 0 0) K 19 [some (.ref a0), some (.int x1), some (.int x2), some (.ref a3), some (.ref a4), some (.int x5), some (.int x6)] [] 0 0 m := by
  intro n
  induction n with
  | zero => intro m x5 x6 hf; cases hf
  | succ n ih => intro m x5 x6 hf; exact v_X7_gather_19B (a0 := a0) (x1 := x1) (x2 := x2) (a3 := a3) (a4 := a4) t_a0 t_a3 t_a4 (f_X7_gather_19 K a0 x1 x2 a3 a4 n) ih hf

set_option maxHeartbeats 4000000 in
theorem v_X7_gather_0 {w : Wo} {K : Kn} {a0 : Nat} {x1 : Int32} {x2 : Int32} {a3 : Nat} {a4 : Nat} {q : Mem} (t_a0 : K a0 = some (.inl 6)) (t_a3 : K a3 = some (.inl 5)) (t_a4 : K a4 = some (.inl 4)) {m : Mem} (hf : f_X7_gather K a0 x1 x2 a3 a4 m = some q) : VV w RX7 cX7_gather 7 none rm_X7_gather false (QM w K none q 0 0) K 0 [some (.ref a0), some (.int x1), some (.int x2), some (.ref a3), some (.ref a4), none, none] [] 0 0 m := by
  unfold f_X7_gather at hf
  refine vv_aload 2 dX7_gather_0 rfl rfl ?_
  refine vv_iconst 3 (v := 0) dX7_gather_2 rfl (by decide) ?_
  obtain ⟨m1, e_m1, hf⟩ := bd_s hf
  refine pf_RX7_48 6 dX7_gather_3 rfl t_a4 e_m1 ?_
  refine vv_aload_n 7 dX7_gather_6 rfl rfl ?_
  obtain ⟨b2, g_b2, hf⟩ := bind_s hf
  have t_b2 := (ldO_spec g_b2).2
  refine gf_RX7_22 10 dX7_gather_7 rfl t_a0 (ldO_spec g_b2).1 ?_
  refine vv_iload_n 11 dX7_gather_10 rfl rfl ?_
  obtain ⟨q3, g_q3, hf⟩ := bind_s hf
  refine vv_callV 14 (st := []) (As := [.int x1]) (stk2 := [.int q3]) (cl2 := 0) (sl2 := 0) dX7_gather_11 rfl lk_RX7_112 w_575 w_576 rfl t_b2 ⟨(Nat.le_of_ble_eq_true rfl), (Nat.le_of_ble_eq_true rfl)⟩ rfl rfl ⟨(Nat.le_of_ble_eq_true rfl), (Nat.le_of_ble_eq_true rfl)⟩ rfl (Nat.le_of_ble_eq_true rfl) rfl rfl rfl rfl (c_X5_firstFrom t_b2 g_q3) ?_
  refine vv_istore 16 (L' := [some (.ref a0), some (.int x1), some (.int x2), some (.ref a3), some (.ref a4), some (.int q3), none]) dX7_gather_14 rfl (Nat.le_of_ble_eq_true rfl) rfl ?_
  refine vv_iconst 17 (v := 0) dX7_gather_16 rfl (by decide) ?_
  refine vv_istore 19 (L' := [some (.ref a0), some (.int x1), some (.int x2), some (.ref a3), some (.ref a4), some (.int q3), some (.int (0 : Int32))]) dX7_gather_17 rfl (Nat.le_of_ble_eq_true rfl) rfl ?_
  exact v_X7_gather_19 t_a0 t_a3 t_a4 FU _ _ _ hf

theorem c_X7_gather {w : Wo} {K : Kn} {a0 : Nat} {x1 : Int32} {x2 : Int32} {a3 : Nat} {a4 : Nat} {q : Mem} {m : Mem} (t_a0 : K a0 = some (.inl 6)) (t_a3 : K a3 = some (.inl 5)) (t_a4 : K a4 = some (.inl 4)) (hf : F_X7_gather K m a0 x1 x2 a3 a4 = some q) : MM w K K yX7_gather cX7_gather 7 none rm_X7_gather [.ref a0, .int x1, .int x2, .ref a3, .ref a4] m none q 0 0 :=
  mm_of (ini := false) (n := 2) (plainFor_of_name (by decide)) rfl (fun h => by first | rfl | cases h) (Nat.le_of_ble_eq_true rfl) rfl (v_X7_gather_0 t_a0 t_a3 t_a4 hf)

set_option maxHeartbeats 4000000 in
theorem v_X8_gathered_0 {w : Wo} {K : Kn} {a0 : Nat} {x1 : Int32} {q : (Nat × Mem)} (t_a0 : K a0 = some (.inl 7)) {m : Mem} (hf : f_X8_gathered K a0 x1 m = some q) : VV w RX8 cX8_gathered 2 (some (.object "SeriesPress$Points")) rm_X8_gathered false (QM w K (some (.ref q.1)) q.2 0 0) K 0 [some (.ref a0), some (.int x1)] [] 0 0 m := by
  unfold f_X8_gathered at hf
  refine vv_aload_n 1 dX8_gathered_0 rfl rfl ?_
  obtain ⟨b1, g_b1, hf⟩ := bind_s hf
  have t_b1 := (ldA_spec g_b1).2
  refine gf_RX8_11 4 dX8_gathered_1 rfl t_a0 (ldA_spec g_b1).1 ?_
  refine vv_iload_n 5 dX8_gathered_4 rfl rfl ?_
  obtain ⟨b2, g_b2, hf⟩ := bind_s hf
  have t_b2 := (alO_spec g_b2).2
  refine vv_aald3 6 dX8_gathered_5 rfl t_b1 g_b2 ?_
  refine vv_iconst 7 (v := 0) dX8_gathered_6 rfl (by decide) ?_
  refine vv_ldcw 10 (v := 2000000000) dX8_gathered_7 rfl w_474 ?_
  refine vv_aload_n 11 dX8_gathered_10 rfl rfl ?_
  obtain ⟨b3, g_b3, hf⟩ := bind_s hf
  have t_b3 := (ldO_spec g_b3).2
  refine gf_RX8_44 14 dX8_gathered_11 rfl t_a0 (ldO_spec g_b3).1 ?_
  refine vv_aload_n 15 dX8_gathered_14 rfl rfl ?_
  obtain ⟨b4, g_b4, hf⟩ := bind_s hf
  have t_b4 := (ldO_spec g_b4).2
  refine gf_RX8_25 18 dX8_gathered_15 rfl t_a0 (ldO_spec g_b4).1 ?_
  obtain ⟨q5, g_q5, hf⟩ := bind_s hf
  refine vv_callV 21 (st := []) (As := [.int (0 : Int32), .int (2000000000 : Int32), .ref b3, .ref b4]) (stk2 := []) (cl2 := 0) (sl2 := 0) dX8_gathered_18 rfl lk_RX8_228 w_697 w_698 rfl t_b2 ⟨(Nat.le_of_ble_eq_true rfl), (Nat.le_of_ble_eq_true rfl)⟩ rfl rfl ⟨(Nat.le_of_ble_eq_true rfl), (Nat.le_of_ble_eq_true rfl)⟩ rfl (Nat.le_of_ble_eq_true rfl) rfl rfl rfl rfl (c_X7_gather t_b2 t_b3 t_b4 g_q5) ?_
  refine vv_aload_n 22 dX8_gathered_21 rfl rfl ?_
  obtain ⟨b6, g_b6, hf⟩ := bind_s hf
  have t_b6 := (ldO_spec g_b6).2
  refine gf_RX8_25 25 dX8_gathered_22 rfl t_a0 (ldO_spec g_b6).1 ?_
  obtain rfl := Option.some.inj hf
  exact vv_aret dX8_gathered_25 rfl (Or.inl ⟨_, rfl⟩) (Or.inr ⟨_, rfl⟩)

theorem c_X8_gathered {w : Wo} {K : Kn} {a0 : Nat} {x1 : Int32} {q : (Nat × Mem)} {m : Mem} (t_a0 : K a0 = some (.inl 7)) (hf : F_X8_gathered K m a0 x1 = some q) : MM w K K yX8_gathered cX8_gathered 2 (some (.object "SeriesPress$Points")) rm_X8_gathered [.ref a0, .int x1] m (some (.ref q.1)) q.2 0 0 :=
  mm_of (ini := false) (n := 0) (plainFor_of_name (by decide)) rfl (fun h => by first | rfl | cases h) (Nat.le_of_ble_eq_true rfl) rfl (v_X8_gathered_0 t_a0 hf)

set_option maxHeartbeats 4000000 in
theorem v_X8_useSpare_0 {w : Wo} {K : Kn} {a0 : Nat} {x1 : Int32} {q : (Int32 × Mem)} (t_a0 : K a0 = some (.inl 7)) {m : Mem} (hf : f_X8_useSpare K a0 x1 m = some q) : VV w RX8 cX8_useSpare 3 (some .int) rm_X8_useSpare false (QM w K (some (.int q.1)) q.2 0 0) K 0 [some (.ref a0), some (.int x1), none] [] 0 0 m := by
  unfold f_X8_useSpare at hf
  refine vv_aload_n 1 dX8_useSpare_0 rfl rfl ?_
  obtain ⟨b1, g_b1, hf⟩ := bind_s hf
  have t_b1 := (ldA_spec g_b1).2
  refine gf_RX8_11 4 dX8_useSpare_1 rfl t_a0 (ldA_spec g_b1).1 ?_
  refine vv_iload_n 5 dX8_useSpare_4 rfl rfl ?_
  obtain ⟨b2, g_b2, hf⟩ := bind_s hf
  have t_b2 := (alO_spec g_b2).2
  refine vv_aald3 6 dX8_useSpare_5 rfl t_b1 g_b2 ?_
  refine vv_astore_n 7 (L' := [some (.ref a0), some (.int x1), some (.ref b2)]) dX8_useSpare_6 rfl (Nat.le_of_ble_eq_true rfl) rfl ?_
  refine vv_aload_n 8 dX8_useSpare_7 rfl rfl ?_
  obtain ⟨b3, g_b3, hf⟩ := bind_s hf
  have t_b3 := (ldA_spec g_b3).2
  refine gf_RX8_11 11 dX8_useSpare_8 rfl t_a0 (ldA_spec g_b3).1 ?_
  refine vv_iload_n 12 dX8_useSpare_11 rfl rfl ?_
  refine vv_aload_n 13 dX8_useSpare_12 rfl rfl ?_
  obtain ⟨b4, g_b4, hf⟩ := bind_s hf
  have t_b4 := (ldO_spec g_b4).2
  refine gf_RX8_16 16 dX8_useSpare_13 rfl t_a0 (ldO_spec g_b4).1 ?_
  obtain ⟨m5, g_m5, hf⟩ := bind_s hf
  refine vv_aast3 17 dX8_useSpare_16 rfl t_b3 t_b4 g_m5 ?_
  refine vv_aload_n 18 dX8_useSpare_17 rfl rfl ?_
  refine vv_aload_n 19 dX8_useSpare_18 rfl rfl ?_
  obtain ⟨m6, e_m6, hf⟩ := bd_s hf
  refine pf_RX8_16 22 dX8_useSpare_19 rfl t_a0 e_m6 ?_
  refine vv_aload_n 23 dX8_useSpare_22 rfl rfl ?_
  obtain ⟨b7, g_b7, hf⟩ := bind_s hf
  have t_b7 := (ldA_spec g_b7).2
  refine gf_RX8_11 26 dX8_useSpare_23 rfl t_a0 (ldA_spec g_b7).1 ?_
  refine vv_iload_n 27 dX8_useSpare_26 rfl rfl ?_
  obtain ⟨b8, g_b8, hf⟩ := bind_s hf
  have t_b8 := (alO_spec g_b8).2
  refine vv_aald3 28 dX8_useSpare_27 rfl t_b7 g_b8 ?_
  refine gf_RX8_169 31 dX8_useSpare_28 rfl t_b8 ?_
  obtain rfl := Option.some.inj hf
  exact vv_iret dX8_useSpare_31 rfl

theorem c_X8_useSpare {w : Wo} {K : Kn} {a0 : Nat} {x1 : Int32} {q : (Int32 × Mem)} {m : Mem} (t_a0 : K a0 = some (.inl 7)) (hf : F_X8_useSpare K m a0 x1 = some q) : MM w K K yX8_useSpare cX8_useSpare 3 (some .int) rm_X8_useSpare [.ref a0, .int x1] m (some (.int q.1)) q.2 0 0 :=
  mm_of (ini := false) (n := 1) (plainFor_of_name (by decide)) rfl (fun h => by first | rfl | cases h) (Nat.le_of_ble_eq_true rfl) rfl (v_X8_useSpare_0 t_a0 hf)
