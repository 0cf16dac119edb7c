/-! ===== the walks ===== -/
abbrev rm_X5_init_20 : Room := { frames := 1, cells := 2, slots := 40, locals := 24 }
abbrev rm_X5_init_11812 : Room := { frames := 1, cells := 2, slots := 23624, locals := 24 }
abbrev rm_X1_init : Room := { frames := 1, cells := 0, slots := 0, locals := 24 }
abbrev rm_X0_init : Room := { frames := 1, cells := 1, slots := 200, locals := 24 }
abbrev rm_X7_init : Room := { frames := 2, cells := 37, slots := 3417, locals := 45 }
abbrev rm_X4_init : Room := { frames := 1, cells := 0, slots := 0, locals := 24 }
abbrev rm_X6_init : Room := { frames := 2, cells := 1, slots := 14, locals := 44 }
abbrev rm_X2_init : Room := { frames := 1, cells := 0, slots := 0, locals := 24 }
abbrev rm_X8_init : Room := { frames := 3, cells := 204, slots := 64646, locals := 66 }
abbrev rm_X8_isSlot : Room := { frames := 0, cells := 0, slots := 0, locals := 0 }
abbrev rm_X8_isRoom : Room := { frames := 0, cells := 0, slots := 0, locals := 0 }
abbrev rm_X7_start : Room := { frames := 0, cells := 0, slots := 0, locals := 0 }
abbrev rm_X8_begins : Room := { frames := 1, cells := 0, slots := 0, locals := 21 }
abbrev rm_X8_isNone : Room := { frames := 1, cells := 0, slots := 0, locals := 20 }
abbrev rm_X8_isStamp : Room := { frames := 0, cells := 0, slots := 0, locals := 0 }
abbrev rm_X7_openBlock : Room := { frames := 0, cells := 0, slots := 0, locals := 0 }
abbrev rm_X1_kindOf : Room := { frames := 0, cells := 0, slots := 0, locals := 0 }
abbrev rm_J6_numberOfLeadingZeros_0f7a4 : Room := { frames := 0, cells := 0, slots := 0, locals := 0 }
abbrev rm_J13_numberOfLeadingZeros_95d88 : Room := { frames := 1, cells := 0, slots := 0, locals := 21 }
abbrev rm_J6_numberOfTrailingZeros_0f7a4 : Room := { frames := 0, cells := 0, slots := 0, locals := 0 }
abbrev rm_J13_numberOfTrailingZeros_95d88 : Room := { frames := 1, cells := 0, slots := 0, locals := 21 }
abbrev rm_J9_min_7cf53 : Room := { frames := 0, cells := 0, slots := 0, locals := 0 }
abbrev rm_X1_isInWindow : Room := { frames := 0, cells := 0, slots := 0, locals := 0 }
abbrev rm_X1_weigh : Room := { frames := 2, cells := 0, slots := 0, locals := 43 }
abbrev rm_X0_openBytes : Room := { frames := 0, cells := 0, slots := 0, locals := 0 }
abbrev rm_X0_sealedBytes : Room := { frames := 1, cells := 0, slots := 0, locals := 20 }
abbrev rm_X7_fits : Room := { frames := 3, cells := 0, slots := 0, locals := 68 }
abbrev rm_X0_writeBits : Room := { frames := 0, cells := 0, slots := 0, locals := 0 }
abbrev rm_X0_write : Room := { frames := 1, cells := 0, slots := 0, locals := 29 }
abbrev rm_X1_step : Room := { frames := 0, cells := 0, slots := 0, locals := 0 }
abbrev rm_X0_checkOf : Room := { frames := 0, cells := 0, slots := 0, locals := 0 }
abbrev rm_X0_close : Room := { frames := 1, cells := 0, slots := 0, locals := 23 }
abbrev rm_X7_closeOpen : Room := { frames := 2, cells := 0, slots := 0, locals := 43 }
abbrev rm_X0_append : Room := { frames := 0, cells := 0, slots := 0, locals := 0 }
set_option maxRecDepth 100000 in
set_option maxHeartbeats 4000000 in
theorem v_X5_init_20_0 {w : Wo} {K : Kn} {a0 : Nat} {q : (Kn × Mem)} {m : Mem} (t_a0 : K a0 = some (.inl 4)) (hf : f_X5_init_20 K a0 m = some q) : VV w RX5 cX5_init 2 none rm_X5_init_20 true (QM w q.1 none q.2 2 40) K 0 [some (.ref a0), some (.int (20 : Int32))] [] 0 0 m := by
  unfold f_X5_init_20 at hf
  refine vv_aload_n 1 dX5_init_0 rfl rfl ?_
  refine vv_objInit 4 dX5_init_1 rfl w_100 w_84 w_objcode (Nat.le_of_ble_eq_true rfl) (Nat.le_of_ble_eq_true rfl) ?_
  refine vv_aload_n 5 dX5_init_4 rfl rfl ?_
  refine vv_iload_n 6 dX5_init_5 rfl rfl ?_
  obtain ⟨b1, e_b1, hf⟩ := bd_s hf
  obtain ⟨K2, e_K2, hf⟩ := bd_s hf
  obtain ⟨m3, e_m3, hf⟩ := bd_s hf
  refine vv_newIE 8 20 (cl2 := 1) (sl2 := 20) e_b1 e_K2 e_m3 dX5_init_6 rfl w_123 (by decide) (by decide) (by decide) (Nat.le_of_ble_eq_true rfl) (Nat.le_of_ble_eq_true rfl) rfl rfl (fun t_b1 => ?_)
  have t_b1 := arrK t_b1
  have t_4 := upK_oldE e_K2 t_a0
  obtain ⟨m5, e_m5, hf⟩ := bd_s hf
  refine pf_RX5_9 11 dX5_init_8 rfl t_4 e_m5 ?_
  refine vv_aload_n 12 dX5_init_11 rfl rfl ?_
  refine vv_iload_n 13 dX5_init_12 rfl rfl ?_
  obtain ⟨b6, e_b6, hf⟩ := bd_s hf
  obtain ⟨K7, e_K7, hf⟩ := bd_s hf
  obtain ⟨m8, e_m8, hf⟩ := bd_s hf
  refine vv_newJE 15 20 (cl2 := 2) (sl2 := 40) e_b6 e_K7 e_m8 dX5_init_13 rfl w_124 (by decide) (by decide) (by decide) (Nat.le_of_ble_eq_true rfl) (Nat.le_of_ble_eq_true rfl) rfl rfl (fun t_b6 => ?_)
  have t_b6 := arrK t_b6
  have t_9 := upK_oldE e_K7 t_4
  obtain ⟨m10, e_m10, hf⟩ := bd_s hf
  refine pf_RX5_15 18 dX5_init_15 rfl t_9 e_m10 ?_
  obtain rfl := Option.some.inj hf
  exact vv_vret dX5_init_18 rfl

theorem c_X5_init_20 {w : Wo} {K : Kn} {a0 : Nat} {q : (Kn × Mem)} {m : Mem} (t_a0 : K a0 = some (.inl 4)) (hf : F_X5_init_20 K m a0 = some q) : MM w K q.1 yX5_init cX5_init 2 none rm_X5_init_20 [.ref a0, .int (20 : Int32)] m none q.2 2 40 :=
  mm_of (ini := true) (n := 0) (plainFor_of_name (by decide)) rfl (fun h => by first | rfl | cases h) (Nat.le_of_ble_eq_true rfl) rfl (v_X5_init_20_0 t_a0 hf)

set_option maxRecDepth 100000 in
theorem e_X5_init_20 {K : Kn} {a0 : Nat} {q : (Kn × Mem)} {m : Mem} (hf : F_X5_init_20 K m a0 = some q) : ∀ x c, K x = some c → q.1 x = some c := by
  unfold F_X5_init_20 f_X5_init_20 at hf
  obtain ⟨b1, e_b1, hf⟩ := bd_s hf
  obtain ⟨K2, e_K2, hf⟩ := bd_s hf
  obtain ⟨m3, e_m3, hf⟩ := bd_s hf
  obtain ⟨m5, e_m5, hf⟩ := bd_s hf
  obtain ⟨b6, e_b6, hf⟩ := bd_s hf
  obtain ⟨K7, e_K7, hf⟩ := bd_s hf
  obtain ⟨m8, e_m8, hf⟩ := bd_s hf
  obtain ⟨m10, e_m10, hf⟩ := bd_s hf
  obtain rfl := Option.some.inj hf
  cases hf
  intro x c h
  exact (upK_oldE e_K7 (upK_oldE e_K2 h))

set_option maxRecDepth 100000 in
set_option maxHeartbeats 4000000 in
theorem v_X5_init_11812_0 {w : Wo} {K : Kn} {a0 : Nat} {q : (Kn × Mem)} {m : Mem} (t_a0 : K a0 = some (.inl 4)) (hf : f_X5_init_11812 K a0 m = some q) : VV w RX5 cX5_init 2 none rm_X5_init_11812 true (QM w q.1 none q.2 2 23624) K 0 [some (.ref a0), some (.int (11812 : Int32))] [] 0 0 m := by
  unfold f_X5_init_11812 at hf
  refine vv_aload_n 1 dX5_init_0 rfl rfl ?_
  refine vv_objInit 4 dX5_init_1 rfl w_100 w_84 w_objcode (Nat.le_of_ble_eq_true rfl) (Nat.le_of_ble_eq_true rfl) ?_
  refine vv_aload_n 5 dX5_init_4 rfl rfl ?_
  refine vv_iload_n 6 dX5_init_5 rfl rfl ?_
  obtain ⟨b1, e_b1, hf⟩ := bd_s hf
  obtain ⟨K2, e_K2, hf⟩ := bd_s hf
  obtain ⟨m3, e_m3, hf⟩ := bd_s hf
  refine vv_newIE 8 11812 (cl2 := 1) (sl2 := 11812) e_b1 e_K2 e_m3 dX5_init_6 rfl w_123 (by decide) (by decide) (by decide) (Nat.le_of_ble_eq_true rfl) (Nat.le_of_ble_eq_true rfl) rfl rfl (fun t_b1 => ?_)
  have t_b1 := arrK t_b1
  have t_4 := upK_oldE e_K2 t_a0
  obtain ⟨m5, e_m5, hf⟩ := bd_s hf
  refine pf_RX5_9 11 dX5_init_8 rfl t_4 e_m5 ?_
  refine vv_aload_n 12 dX5_init_11 rfl rfl ?_
  refine vv_iload_n 13 dX5_init_12 rfl rfl ?_
  obtain ⟨b6, e_b6, hf⟩ := bd_s hf
  obtain ⟨K7, e_K7, hf⟩ := bd_s hf
  obtain ⟨m8, e_m8, hf⟩ := bd_s hf
  refine vv_newJE 15 11812 (cl2 := 2) (sl2 := 23624) e_b6 e_K7 e_m8 dX5_init_13 rfl w_124 (by decide) (by decide) (by decide) (Nat.le_of_ble_eq_true rfl) (Nat.le_of_ble_eq_true rfl) rfl rfl (fun t_b6 => ?_)
  have t_b6 := arrK t_b6
  have t_9 := upK_oldE e_K7 t_4
  obtain ⟨m10, e_m10, hf⟩ := bd_s hf
  refine pf_RX5_15 18 dX5_init_15 rfl t_9 e_m10 ?_
  obtain rfl := Option.some.inj hf
  exact vv_vret dX5_init_18 rfl

theorem c_X5_init_11812 {w : Wo} {K : Kn} {a0 : Nat} {q : (Kn × Mem)} {m : Mem} (t_a0 : K a0 = some (.inl 4)) (hf : F_X5_init_11812 K m a0 = some q) : MM w K q.1 yX5_init cX5_init 2 none rm_X5_init_11812 [.ref a0, .int (11812 : Int32)] m none q.2 2 23624 :=
  mm_of (ini := true) (n := 0) (plainFor_of_name (by decide)) rfl (fun h => by first | rfl | cases h) (Nat.le_of_ble_eq_true rfl) rfl (v_X5_init_11812_0 t_a0 hf)

set_option maxRecDepth 100000 in
theorem e_X5_init_11812 {K : Kn} {a0 : Nat} {q : (Kn × Mem)} {m : Mem} (hf : F_X5_init_11812 K m a0 = some q) : ∀ x c, K x = some c → q.1 x = some c := by
  unfold F_X5_init_11812 f_X5_init_11812 at hf
  obtain ⟨b1, e_b1, hf⟩ := bd_s hf
  obtain ⟨K2, e_K2, hf⟩ := bd_s hf
  obtain ⟨m3, e_m3, hf⟩ := bd_s hf
  obtain ⟨m5, e_m5, hf⟩ := bd_s hf
  obtain ⟨b6, e_b6, hf⟩ := bd_s hf
  obtain ⟨K7, e_K7, hf⟩ := bd_s hf
  obtain ⟨m8, e_m8, hf⟩ := bd_s hf
  obtain ⟨m10, e_m10, hf⟩ := bd_s hf
  obtain rfl := Option.some.inj hf
  cases hf
  intro x c h
  exact (upK_oldE e_K7 (upK_oldE e_K2 h))

set_option maxHeartbeats 4000000 in
theorem v_X1_init_0 {w : Wo} {K : Kn} {a0 : Nat} {q : Mem} (t_a0 : K a0 = some (.inl 1)) {m : Mem} (hf : f_X1_init K a0 m = some q) : VV w RX1 cX1_init 1 none rm_X1_init true (QM w K none q 0 0) K 0 [some (.ref a0)] [] 0 0 m := by
  unfold f_X1_init at hf
  refine vv_aload_n 1 dX1_init_0 rfl rfl ?_
  refine vv_objInit 4 dX1_init_1 rfl w_130 w_84 w_objcode (Nat.le_of_ble_eq_true rfl) (Nat.le_of_ble_eq_true rfl) ?_
  refine vv_aload_n 5 dX1_init_4 rfl rfl ?_
  refine vv_iconst 6 (v := (-1)) dX1_init_5 rfl (by decide) ?_
  obtain ⟨m1, e_m1, hf⟩ := bd_s hf
  refine pf_RX1_9 9 dX1_init_6 rfl t_a0 e_m1 ?_
  obtain rfl := Option.some.inj hf
  exact vv_vret dX1_init_9 rfl

theorem c_X1_init {w : Wo} {K : Kn} {a0 : Nat} {q : Mem} {m : Mem} (t_a0 : K a0 = some (.inl 1)) (hf : F_X1_init K m a0 = some q) : MM w K K yX1_init cX1_init 1 none rm_X1_init [.ref a0] m none q 0 0 :=
  mm_of (ini := true) (n := 0) (plainFor_of_name (by decide)) rfl (fun h => by first | rfl | cases h) (Nat.le_of_ble_eq_true rfl) rfl (v_X1_init_0 t_a0 hf)

set_option maxRecDepth 100000 in
set_option maxHeartbeats 4000000 in
theorem v_X0_init_0 {w : Wo} {K : Kn} {a0 : Nat} {q : (Kn × Mem)} {m : Mem} (t_a0 : K a0 = some (.inl 0)) (hf : f_X0_init K a0 m = some q) : VV w RX0 cX0_init 1 none rm_X0_init true (QM w q.1 none q.2 1 200) K 0 [some (.ref a0)] [] 0 0 m := by
  unfold f_X0_init at hf
  refine vv_aload_n 1 dX0_init_0 rfl rfl ?_
  refine vv_objInit 4 dX0_init_1 rfl w_204 w_84 w_objcode (Nat.le_of_ble_eq_true rfl) (Nat.le_of_ble_eq_true rfl) ?_
  refine vv_aload_n 5 dX0_init_4 rfl rfl ?_
  refine vv_sipush 8 (v := 200) dX0_init_5 rfl (by decide) ?_
  obtain ⟨b1, e_b1, hf⟩ := bd_s hf
  obtain ⟨K2, e_K2, hf⟩ := bd_s hf
  obtain ⟨m3, e_m3, hf⟩ := bd_s hf
  refine vv_newIE 10 200 (cl2 := 1) (sl2 := 200) e_b1 e_K2 e_m3 dX0_init_8 rfl w_123 (by decide) (by decide) (by decide) (Nat.le_of_ble_eq_true rfl) (Nat.le_of_ble_eq_true rfl) rfl rfl (fun t_b1 => ?_)
  have t_b1 := arrK t_b1
  have t_4 := upK_oldE e_K2 t_a0
  obtain ⟨m5, e_m5, hf⟩ := bd_s hf
  refine pf_RX0_9 13 dX0_init_10 rfl t_4 e_m5 ?_
  refine vv_aload_n 14 dX0_init_13 rfl rfl ?_
  refine vv_iconst 15 (v := (-1)) dX0_init_14 rfl (by decide) ?_
  obtain ⟨m6, e_m6, hf⟩ := bd_s hf
  refine pf_RX0_15 18 dX0_init_15 rfl t_4 e_m6 ?_
  obtain rfl := Option.some.inj hf
  exact vv_vret dX0_init_18 rfl

theorem c_X0_init {w : Wo} {K : Kn} {a0 : Nat} {q : (Kn × Mem)} {m : Mem} (t_a0 : K a0 = some (.inl 0)) (hf : F_X0_init K m a0 = some q) : MM w K q.1 yX0_init cX0_init 1 none rm_X0_init [.ref a0] m none q.2 1 200 :=
  mm_of (ini := true) (n := 0) (plainFor_of_name (by decide)) rfl (fun h => by first | rfl | cases h) (Nat.le_of_ble_eq_true rfl) rfl (v_X0_init_0 t_a0 hf)

set_option maxRecDepth 100000 in
theorem e_X0_init {K : Kn} {a0 : Nat} {q : (Kn × Mem)} {m : Mem} (hf : F_X0_init K m a0 = some q) : ∀ x c, K x = some c → q.1 x = some c := by
  unfold F_X0_init f_X0_init at hf
  obtain ⟨b1, e_b1, hf⟩ := bd_s hf
  obtain ⟨K2, e_K2, hf⟩ := bd_s hf
  obtain ⟨m3, e_m3, hf⟩ := bd_s hf
  obtain ⟨m5, e_m5, hf⟩ := bd_s hf
  obtain ⟨m6, e_m6, hf⟩ := bd_s hf
  obtain rfl := Option.some.inj hf
  cases hf
  intro x c h
  exact (upK_oldE e_K2 h)

set_option maxRecDepth 100000 in
set_option maxHeartbeats 4000000 in
theorem v_X7_init_0 {w : Wo} {K : Kn} {a0 : Nat} {q : (Kn × Mem)} {m : Mem} (t_a0 : K a0 = some (.inl 6)) (hf : f_X7_init K a0 m = some q) : VV w RX7 cX7_init 2 none rm_X7_init true (QM w q.1 none q.2 37 3417) K 0 [some (.ref a0), none] [] 0 0 m := by
  unfold f_X7_init at hf
  refine vv_aload_n 1 dX7_init_0 rfl rfl ?_
  refine vv_objInit 4 dX7_init_1 rfl w_92 w_84 w_objcode (Nat.le_of_ble_eq_true rfl) (Nat.le_of_ble_eq_true rfl) ?_
  refine vv_aload_n 5 dX7_init_4 rfl rfl ?_
  refine vv_bipush 7 (v := 16) dX7_init_5 rfl (by decide) ?_
  obtain ⟨b1, e_b1, hf⟩ := bd_s hf
  obtain ⟨K2, e_K2, hf⟩ := bd_s hf
  obtain ⟨m3, e_m3, hf⟩ := bd_s hf
  refine vv_anew4E 10 16 (cl2 := 1) (sl2 := 16) e_b1 e_K2 e_m3 dX7_init_7 rfl w_93 (by decide) (by decide) (by decide) (Nat.le_of_ble_eq_true rfl) (Nat.le_of_ble_eq_true rfl) rfl rfl (fun t_b1 => ?_)
  have t_b1 := arrK t_b1
  have t_4 := upK_oldE e_K2 t_a0
  obtain ⟨m5, e_m5, hf⟩ := bd_s hf
  refine pf_RX7_11 13 dX7_init_10 rfl t_4 e_m5 ?_
  refine vv_aload_n 14 dX7_init_13 rfl rfl ?_
  obtain ⟨b6, e_b6, hf⟩ := bd_s hf
  obtain ⟨K7, e_K7, hf⟩ := bd_s hf
  obtain ⟨m8, e_m8, hf⟩ := bd_s hf
  refine vv_newE 17 (cl2 := 2) (sl2 := 19) e_b6 e_K7 e_m8 dX7_init_14 rfl (ci := 4) rfl inX5 (by decide +kernel) (by decide) w_95 w_96 w_65 (Nat.le_of_ble_eq_true rfl) (Nat.le_of_ble_eq_true rfl) rfl rfl (fun t_b6 => ?_)
  have t_9 := upK_oldE e_K7 t_4
  refine vv_dup 18 dX7_init_17 rfl rfl ?_
  refine vv_bipush 20 (v := 20) dX7_init_18 rfl (by decide) ?_
  obtain ⟨q10, g_q10, hf⟩ := bind_s hf
  refine vv_callI 23 (st := [.ref b6, .ref a0]) (As := [.int (20 : Int32)]) (stk2 := [.ref b6, .ref a0]) (cl2 := 4) (sl2 := 59) dX7_init_20 rfl lk_RX7_19 w_98 rfl ⟨(Nat.le_of_ble_eq_true rfl), (Nat.le_of_ble_eq_true rfl)⟩ rfl rfl ⟨(Nat.le_of_ble_eq_true rfl), (Nat.le_of_ble_eq_true rfl)⟩ rfl (Nat.le_of_ble_eq_true rfl) rfl rfl rfl rfl (c_X5_init_20 t_b6 g_q10) ?_
  have t_11 := e_X5_init_20 g_q10 _ _ t_9
  have t_12 := e_X5_init_20 g_q10 _ _ t_b6
  obtain ⟨m13, e_m13, hf⟩ := bd_s hf
  refine pf_RX7_22 26 dX7_init_23 rfl t_11 e_m13 ?_
  refine vv_aload_n 27 dX7_init_26 rfl rfl ?_
  obtain ⟨b14, e_b14, hf⟩ := bd_s hf
  obtain ⟨K15, e_K15, hf⟩ := bd_s hf
  obtain ⟨m16, e_m16, hf⟩ := bd_s hf
  refine vv_newE 30 (cl2 := 5) (sl2 := 73) e_b14 e_K15 e_m16 dX7_init_27 rfl (ci := 1) rfl inX1 (by decide +kernel) (by decide) w_125 w_126 w_66 (Nat.le_of_ble_eq_true rfl) (Nat.le_of_ble_eq_true rfl) rfl rfl (fun t_b14 => ?_)
  have t_17 := upK_oldE e_K15 t_11
  refine vv_dup 31 dX7_init_30 rfl rfl ?_
  obtain ⟨q18, g_q18, hf⟩ := bind_s hf
  refine vv_callIN 34 (st := [.ref b14, .ref a0]) (As := []) (stk2 := [.ref b14, .ref a0]) (cl2 := 5) (sl2 := 73) dX7_init_31 rfl lk_RX7_28 w_128 rfl ⟨(Nat.le_of_ble_eq_true rfl), (Nat.le_of_ble_eq_true rfl)⟩ rfl rfl ⟨(Nat.le_of_ble_eq_true rfl), (Nat.le_of_ble_eq_true rfl)⟩ rfl (Nat.le_of_ble_eq_true rfl) rfl rfl rfl rfl (c_X1_init t_b14 g_q18) ?_
  obtain ⟨m19, e_m19, hf⟩ := bd_s hf
  refine pf_RX7_29 37 dX7_init_34 rfl t_17 e_m19 ?_
  refine vv_aload_n 38 dX7_init_37 rfl rfl ?_
  refine vv_iconst 39 (v := (-1)) dX7_init_38 rfl (by decide) ?_
  obtain ⟨m20, e_m20, hf⟩ := bd_s hf
  refine pf_RX7_33 42 dX7_init_39 rfl t_17 e_m20 ?_
  refine vv_iconst 43 (v := 0) dX7_init_42 rfl (by decide) ?_
  refine vv_istore_n 44 (L' := [some (.ref a0), some (.int (0 : Int32))]) dX7_init_43 rfl (Nat.le_of_ble_eq_true rfl) rfl ?_
  refine vv_iload_n 45 dX7_init_44 rfl rfl ?_
  refine vv_bipush 47 (v := 16) dX7_init_45 rfl (by decide) ?_
  refine vv_icmp_ge 69 50 dX7_init_47 rfl (by decide) (fun h => absurd h (by decide)) (fun _ => ?_)
  refine vv_aload_n 51 dX7_init_50 rfl rfl ?_
  obtain ⟨b21, g_b21, hf⟩ := bind_s hf
  have t_b21 := (ldA_spec g_b21).2
  refine gf_RX7_11 54 dX7_init_51 rfl t_17 (ldA_spec g_b21).1 ?_
  refine vv_iload_n 55 dX7_init_54 rfl rfl ?_
  obtain ⟨b22, e_b22, hf⟩ := bd_s hf
  obtain ⟨K23, e_K23, hf⟩ := bd_s hf
  obtain ⟨m24, e_m24, hf⟩ := bd_s hf
  refine vv_newE 58 (cl2 := 6) (sl2 := 82) e_b22 e_K23 e_m24 dX7_init_55 rfl (ci := 0) rfl inX0 (by decide +kernel) (by decide) w_93 w_200 w_67 (Nat.le_of_ble_eq_true rfl) (Nat.le_of_ble_eq_true rfl) rfl rfl (fun t_b22 => ?_)
  have t_25 := upK_oldE e_K23 t_17
  have t_26 := arrK (upK_oldE e_K23 t_b21)
  refine vv_dup 59 dX7_init_58 rfl rfl ?_
  obtain ⟨q27, g_q27, hf⟩ := bind_s hf
  refine vv_callIN 62 (st := [.ref b22, .int (0 : Int32), .ref b21]) (As := []) (stk2 := [.ref b22, .int (0 : Int32), .ref b21]) (cl2 := 7) (sl2 := 282) dX7_init_59 rfl lk_RX7_37 w_202 rfl ⟨(Nat.le_of_ble_eq_true rfl), (Nat.le_of_ble_eq_true rfl)⟩ rfl rfl ⟨(Nat.le_of_ble_eq_true rfl), (Nat.le_of_ble_eq_true rfl)⟩ rfl (Nat.le_of_ble_eq_true rfl) rfl rfl rfl rfl (c_X0_init t_b22 g_q27) ?_
  have t_28 := e_X0_init g_q27 _ _ t_25
  have t_29 := arrK (e_X0_init g_q27 _ _ t_26)
  have t_30 := e_X0_init g_q27 _ _ t_b22
  obtain ⟨m31, g_m31, hf⟩ := bind_s hf
  refine vv_aast4 63 dX7_init_62 rfl t_29 t_30 g_m31 ?_
  refine vv_iincE (q := 66) (v := 1) (c := 1) (L' := [some (.ref a0), some (.int (1 : Int32))]) (by decide) dX7_init_63 rfl rfl (by decide) (Nat.le_of_ble_eq_true rfl) rfl ?_
  refine vv_goto 44 dX7_init_66 (by decide) ?_
  refine vv_iload_n 45 dX7_init_44 rfl rfl ?_
  refine vv_bipush 47 (v := 16) dX7_init_45 rfl (by decide) ?_
  refine vv_icmp_ge 69 50 dX7_init_47 rfl (by decide) (fun h => absurd h (by decide)) (fun _ => ?_)
  refine vv_aload_n 51 dX7_init_50 rfl rfl ?_
  obtain ⟨b32, g_b32, hf⟩ := bind_s hf
  have t_b32 := (ldA_spec g_b32).2
  refine gf_RX7_11 54 dX7_init_51 rfl t_28 (ldA_spec g_b32).1 ?_
  refine vv_iload_n 55 dX7_init_54 rfl rfl ?_
  obtain ⟨b33, e_b33, hf⟩ := bd_s hf
  obtain ⟨K34, e_K34, hf⟩ := bd_s hf
  obtain ⟨m35, e_m35, hf⟩ := bd_s hf
  refine vv_newE 58 (cl2 := 8) (sl2 := 291) e_b33 e_K34 e_m35 dX7_init_55 rfl (ci := 0) rfl inX0 (by decide +kernel) (by decide) w_93 w_200 w_67 (Nat.le_of_ble_eq_true rfl) (Nat.le_of_ble_eq_true rfl) rfl rfl (fun t_b33 => ?_)
  have t_36 := upK_oldE e_K34 t_28
  have t_37 := arrK (upK_oldE e_K34 t_b32)
  refine vv_dup 59 dX7_init_58 rfl rfl ?_
  obtain ⟨q38, g_q38, hf⟩ := bind_s hf
  refine vv_callIN 62 (st := [.ref b33, .int (1 : Int32), .ref b32]) (As := []) (stk2 := [.ref b33, .int (1 : Int32), .ref b32]) (cl2 := 9) (sl2 := 491) dX7_init_59 rfl lk_RX7_37 w_202 rfl ⟨(Nat.le_of_ble_eq_true rfl), (Nat.le_of_ble_eq_true rfl)⟩ rfl rfl ⟨(Nat.le_of_ble_eq_true rfl), (Nat.le_of_ble_eq_true rfl)⟩ rfl (Nat.le_of_ble_eq_true rfl) rfl rfl rfl rfl (c_X0_init t_b33 g_q38) ?_
  have t_39 := e_X0_init g_q38 _ _ t_36
  have t_40 := arrK (e_X0_init g_q38 _ _ t_37)
  have t_41 := e_X0_init g_q38 _ _ t_b33
  obtain ⟨m42, g_m42, hf⟩ := bind_s hf
  refine vv_aast4 63 dX7_init_62 rfl t_40 t_41 g_m42 ?_
  refine vv_iincE (q := 66) (v := 2) (c := 1) (L' := [some (.ref a0), some (.int (2 : Int32))]) (by decide) dX7_init_63 rfl rfl (by decide) (Nat.le_of_ble_eq_true rfl) rfl ?_
  refine vv_goto 44 dX7_init_66 (by decide) ?_
  refine vv_iload_n 45 dX7_init_44 rfl rfl ?_
  refine vv_bipush 47 (v := 16) dX7_init_45 rfl (by decide) ?_
  refine vv_icmp_ge 69 50 dX7_init_47 rfl (by decide) (fun h => absurd h (by decide)) (fun _ => ?_)
  refine vv_aload_n 51 dX7_init_50 rfl rfl ?_
  obtain ⟨b43, g_b43, hf⟩ := bind_s hf
  have t_b43 := (ldA_spec g_b43).2
  refine gf_RX7_11 54 dX7_init_51 rfl t_39 (ldA_spec g_b43).1 ?_
  refine vv_iload_n 55 dX7_init_54 rfl rfl ?_
  obtain ⟨b44, e_b44, hf⟩ := bd_s hf
  obtain ⟨K45, e_K45, hf⟩ := bd_s hf
  obtain ⟨m46, e_m46, hf⟩ := bd_s hf
  refine vv_newE 58 (cl2 := 10) (sl2 := 500) e_b44 e_K45 e_m46 dX7_init_55 rfl (ci := 0) rfl inX0 (by decide +kernel) (by decide) w_93 w_200 w_67 (Nat.le_of_ble_eq_true rfl) (Nat.le_of_ble_eq_true rfl) rfl rfl (fun t_b44 => ?_)
  have t_47 := upK_oldE e_K45 t_39
  have t_48 := arrK (upK_oldE e_K45 t_b43)
  refine vv_dup 59 dX7_init_58 rfl rfl ?_
  obtain ⟨q49, g_q49, hf⟩ := bind_s hf
  refine vv_callIN 62 (st := [.ref b44, .int (2 : Int32), .ref b43]) (As := []) (stk2 := [.ref b44, .int (2 : Int32), .ref b43]) (cl2 := 11) (sl2 := 700) dX7_init_59 rfl lk_RX7_37 w_202 rfl ⟨(Nat.le_of_ble_eq_true rfl), (Nat.le_of_ble_eq_true rfl)⟩ rfl rfl ⟨(Nat.le_of_ble_eq_true rfl), (Nat.le_of_ble_eq_true rfl)⟩ rfl (Nat.le_of_ble_eq_true rfl) rfl rfl rfl rfl (c_X0_init t_b44 g_q49) ?_
  have t_50 := e_X0_init g_q49 _ _ t_47
  have t_51 := arrK (e_X0_init g_q49 _ _ t_48)
  have t_52 := e_X0_init g_q49 _ _ t_b44
  obtain ⟨m53, g_m53, hf⟩ := bind_s hf
  refine vv_aast4 63 dX7_init_62 rfl t_51 t_52 g_m53 ?_
  refine vv_iincE (q := 66) (v := 3) (c := 1) (L' := [some (.ref a0), some (.int (3 : Int32))]) (by decide) dX7_init_63 rfl rfl (by decide) (Nat.le_of_ble_eq_true rfl) rfl ?_
  refine vv_goto 44 dX7_init_66 (by decide) ?_
  refine vv_iload_n 45 dX7_init_44 rfl rfl ?_
  refine vv_bipush 47 (v := 16) dX7_init_45 rfl (by decide) ?_
  refine vv_icmp_ge 69 50 dX7_init_47 rfl (by decide) (fun h => absurd h (by decide)) (fun _ => ?_)
  refine vv_aload_n 51 dX7_init_50 rfl rfl ?_
  obtain ⟨b54, g_b54, hf⟩ := bind_s hf
  have t_b54 := (ldA_spec g_b54).2
  refine gf_RX7_11 54 dX7_init_51 rfl t_50 (ldA_spec g_b54).1 ?_
  refine vv_iload_n 55 dX7_init_54 rfl rfl ?_
  obtain ⟨b55, e_b55, hf⟩ := bd_s hf
  obtain ⟨K56, e_K56, hf⟩ := bd_s hf
  obtain ⟨m57, e_m57, hf⟩ := bd_s hf
  refine vv_newE 58 (cl2 := 12) (sl2 := 709) e_b55 e_K56 e_m57 dX7_init_55 rfl (ci := 0) rfl inX0 (by decide +kernel) (by decide) w_93 w_200 w_67 (Nat.le_of_ble_eq_true rfl) (Nat.le_of_ble_eq_true rfl) rfl rfl (fun t_b55 => ?_)
  have t_58 := upK_oldE e_K56 t_50
  have t_59 := arrK (upK_oldE e_K56 t_b54)
  refine vv_dup 59 dX7_init_58 rfl rfl ?_
  obtain ⟨q60, g_q60, hf⟩ := bind_s hf
  refine vv_callIN 62 (st := [.ref b55, .int (3 : Int32), .ref b54]) (As := []) (stk2 := [.ref b55, .int (3 : Int32), .ref b54]) (cl2 := 13) (sl2 := 909) dX7_init_59 rfl lk_RX7_37 w_202 rfl ⟨(Nat.le_of_ble_eq_true rfl), (Nat.le_of_ble_eq_true rfl)⟩ rfl rfl ⟨(Nat.le_of_ble_eq_true rfl), (Nat.le_of_ble_eq_true rfl)⟩ rfl (Nat.le_of_ble_eq_true rfl) rfl rfl rfl rfl (c_X0_init t_b55 g_q60) ?_
  have t_61 := e_X0_init g_q60 _ _ t_58
  have t_62 := arrK (e_X0_init g_q60 _ _ t_59)
  have t_63 := e_X0_init g_q60 _ _ t_b55
  obtain ⟨m64, g_m64, hf⟩ := bind_s hf
  refine vv_aast4 63 dX7_init_62 rfl t_62 t_63 g_m64 ?_
  refine vv_iincE (q := 66) (v := 4) (c := 1) (L' := [some (.ref a0), some (.int (4 : Int32))]) (by decide) dX7_init_63 rfl rfl (by decide) (Nat.le_of_ble_eq_true rfl) rfl ?_
  refine vv_goto 44 dX7_init_66 (by decide) ?_
  refine vv_iload_n 45 dX7_init_44 rfl rfl ?_
  refine vv_bipush 47 (v := 16) dX7_init_45 rfl (by decide) ?_
  refine vv_icmp_ge 69 50 dX7_init_47 rfl (by decide) (fun h => absurd h (by decide)) (fun _ => ?_)
  refine vv_aload_n 51 dX7_init_50 rfl rfl ?_
  obtain ⟨b65, g_b65, hf⟩ := bind_s hf
  have t_b65 := (ldA_spec g_b65).2
  refine gf_RX7_11 54 dX7_init_51 rfl t_61 (ldA_spec g_b65).1 ?_
  refine vv_iload_n 55 dX7_init_54 rfl rfl ?_
  obtain ⟨b66, e_b66, hf⟩ := bd_s hf
  obtain ⟨K67, e_K67, hf⟩ := bd_s hf
  obtain ⟨m68, e_m68, hf⟩ := bd_s hf
  refine vv_newE 58 (cl2 := 14) (sl2 := 918) e_b66 e_K67 e_m68 dX7_init_55 rfl (ci := 0) rfl inX0 (by decide +kernel) (by decide) w_93 w_200 w_67 (Nat.le_of_ble_eq_true rfl) (Nat.le_of_ble_eq_true rfl) rfl rfl (fun t_b66 => ?_)
  have t_69 := upK_oldE e_K67 t_61
  have t_70 := arrK (upK_oldE e_K67 t_b65)
  refine vv_dup 59 dX7_init_58 rfl rfl ?_
  obtain ⟨q71, g_q71, hf⟩ := bind_s hf
  refine vv_callIN 62 (st := [.ref b66, .int (4 : Int32), .ref b65]) (As := []) (stk2 := [.ref b66, .int (4 : Int32), .ref b65]) (cl2 := 15) (sl2 := 1118) dX7_init_59 rfl lk_RX7_37 w_202 rfl ⟨(Nat.le_of_ble_eq_true rfl), (Nat.le_of_ble_eq_true rfl)⟩ rfl rfl ⟨(Nat.le_of_ble_eq_true rfl), (Nat.le_of_ble_eq_true rfl)⟩ rfl (Nat.le_of_ble_eq_true rfl) rfl rfl rfl rfl (c_X0_init t_b66 g_q71) ?_
  have t_72 := e_X0_init g_q71 _ _ t_69
  have t_73 := arrK (e_X0_init g_q71 _ _ t_70)
  have t_74 := e_X0_init g_q71 _ _ t_b66
  obtain ⟨m75, g_m75, hf⟩ := bind_s hf
  refine vv_aast4 63 dX7_init_62 rfl t_73 t_74 g_m75 ?_
  refine vv_iincE (q := 66) (v := 5) (c := 1) (L' := [some (.ref a0), some (.int (5 : Int32))]) (by decide) dX7_init_63 rfl rfl (by decide) (Nat.le_of_ble_eq_true rfl) rfl ?_
  refine vv_goto 44 dX7_init_66 (by decide) ?_
  refine vv_iload_n 45 dX7_init_44 rfl rfl ?_
  refine vv_bipush 47 (v := 16) dX7_init_45 rfl (by decide) ?_
  refine vv_icmp_ge 69 50 dX7_init_47 rfl (by decide) (fun h => absurd h (by decide)) (fun _ => ?_)
  refine vv_aload_n 51 dX7_init_50 rfl rfl ?_
  obtain ⟨b76, g_b76, hf⟩ := bind_s hf
  have t_b76 := (ldA_spec g_b76).2
  refine gf_RX7_11 54 dX7_init_51 rfl t_72 (ldA_spec g_b76).1 ?_
  refine vv_iload_n 55 dX7_init_54 rfl rfl ?_
  obtain ⟨b77, e_b77, hf⟩ := bd_s hf
  obtain ⟨K78, e_K78, hf⟩ := bd_s hf
  obtain ⟨m79, e_m79, hf⟩ := bd_s hf
  refine vv_newE 58 (cl2 := 16) (sl2 := 1127) e_b77 e_K78 e_m79 dX7_init_55 rfl (ci := 0) rfl inX0 (by decide +kernel) (by decide) w_93 w_200 w_67 (Nat.le_of_ble_eq_true rfl) (Nat.le_of_ble_eq_true rfl) rfl rfl (fun t_b77 => ?_)
  have t_80 := upK_oldE e_K78 t_72
  have t_81 := arrK (upK_oldE e_K78 t_b76)
  refine vv_dup 59 dX7_init_58 rfl rfl ?_
  obtain ⟨q82, g_q82, hf⟩ := bind_s hf
  refine vv_callIN 62 (st := [.ref b77, .int (5 : Int32), .ref b76]) (As := []) (stk2 := [.ref b77, .int (5 : Int32), .ref b76]) (cl2 := 17) (sl2 := 1327) dX7_init_59 rfl lk_RX7_37 w_202 rfl ⟨(Nat.le_of_ble_eq_true rfl), (Nat.le_of_ble_eq_true rfl)⟩ rfl rfl ⟨(Nat.le_of_ble_eq_true rfl), (Nat.le_of_ble_eq_true rfl)⟩ rfl (Nat.le_of_ble_eq_true rfl) rfl rfl rfl rfl (c_X0_init t_b77 g_q82) ?_
  have t_83 := e_X0_init g_q82 _ _ t_80
  have t_84 := arrK (e_X0_init g_q82 _ _ t_81)
  have t_85 := e_X0_init g_q82 _ _ t_b77
  obtain ⟨m86, g_m86, hf⟩ := bind_s hf
  refine vv_aast4 63 dX7_init_62 rfl t_84 t_85 g_m86 ?_
  refine vv_iincE (q := 66) (v := 6) (c := 1) (L' := [some (.ref a0), some (.int (6 : Int32))]) (by decide) dX7_init_63 rfl rfl (by decide) (Nat.le_of_ble_eq_true rfl) rfl ?_
  refine vv_goto 44 dX7_init_66 (by decide) ?_
  refine vv_iload_n 45 dX7_init_44 rfl rfl ?_
  refine vv_bipush 47 (v := 16) dX7_init_45 rfl (by decide) ?_
  refine vv_icmp_ge 69 50 dX7_init_47 rfl (by decide) (fun h => absurd h (by decide)) (fun _ => ?_)
  refine vv_aload_n 51 dX7_init_50 rfl rfl ?_
  obtain ⟨b87, g_b87, hf⟩ := bind_s hf
  have t_b87 := (ldA_spec g_b87).2
  refine gf_RX7_11 54 dX7_init_51 rfl t_83 (ldA_spec g_b87).1 ?_
  refine vv_iload_n 55 dX7_init_54 rfl rfl ?_
  obtain ⟨b88, e_b88, hf⟩ := bd_s hf
  obtain ⟨K89, e_K89, hf⟩ := bd_s hf
  obtain ⟨m90, e_m90, hf⟩ := bd_s hf
  refine vv_newE 58 (cl2 := 18) (sl2 := 1336) e_b88 e_K89 e_m90 dX7_init_55 rfl (ci := 0) rfl inX0 (by decide +kernel) (by decide) w_93 w_200 w_67 (Nat.le_of_ble_eq_true rfl) (Nat.le_of_ble_eq_true rfl) rfl rfl (fun t_b88 => ?_)
  have t_91 := upK_oldE e_K89 t_83
  have t_92 := arrK (upK_oldE e_K89 t_b87)
  refine vv_dup 59 dX7_init_58 rfl rfl ?_
  obtain ⟨q93, g_q93, hf⟩ := bind_s hf
  refine vv_callIN 62 (st := [.ref b88, .int (6 : Int32), .ref b87]) (As := []) (stk2 := [.ref b88, .int (6 : Int32), .ref b87]) (cl2 := 19) (sl2 := 1536) dX7_init_59 rfl lk_RX7_37 w_202 rfl ⟨(Nat.le_of_ble_eq_true rfl), (Nat.le_of_ble_eq_true rfl)⟩ rfl rfl ⟨(Nat.le_of_ble_eq_true rfl), (Nat.le_of_ble_eq_true rfl)⟩ rfl (Nat.le_of_ble_eq_true rfl) rfl rfl rfl rfl (c_X0_init t_b88 g_q93) ?_
  have t_94 := e_X0_init g_q93 _ _ t_91
  have t_95 := arrK (e_X0_init g_q93 _ _ t_92)
  have t_96 := e_X0_init g_q93 _ _ t_b88
  obtain ⟨m97, g_m97, hf⟩ := bind_s hf
  refine vv_aast4 63 dX7_init_62 rfl t_95 t_96 g_m97 ?_
  refine vv_iincE (q := 66) (v := 7) (c := 1) (L' := [some (.ref a0), some (.int (7 : Int32))]) (by decide) dX7_init_63 rfl rfl (by decide) (Nat.le_of_ble_eq_true rfl) rfl ?_
  refine vv_goto 44 dX7_init_66 (by decide) ?_
  refine vv_iload_n 45 dX7_init_44 rfl rfl ?_
  refine vv_bipush 47 (v := 16) dX7_init_45 rfl (by decide) ?_
  refine vv_icmp_ge 69 50 dX7_init_47 rfl (by decide) (fun h => absurd h (by decide)) (fun _ => ?_)
  refine vv_aload_n 51 dX7_init_50 rfl rfl ?_
  obtain ⟨b98, g_b98, hf⟩ := bind_s hf
  have t_b98 := (ldA_spec g_b98).2
  refine gf_RX7_11 54 dX7_init_51 rfl t_94 (ldA_spec g_b98).1 ?_
  refine vv_iload_n 55 dX7_init_54 rfl rfl ?_
  obtain ⟨b99, e_b99, hf⟩ := bd_s hf
  obtain ⟨K100, e_K100, hf⟩ := bd_s hf
  obtain ⟨m101, e_m101, hf⟩ := bd_s hf
  refine vv_newE 58 (cl2 := 20) (sl2 := 1545) e_b99 e_K100 e_m101 dX7_init_55 rfl (ci := 0) rfl inX0 (by decide +kernel) (by decide) w_93 w_200 w_67 (Nat.le_of_ble_eq_true rfl) (Nat.le_of_ble_eq_true rfl) rfl rfl (fun t_b99 => ?_)
  have t_102 := upK_oldE e_K100 t_94
  have t_103 := arrK (upK_oldE e_K100 t_b98)
  refine vv_dup 59 dX7_init_58 rfl rfl ?_
  obtain ⟨q104, g_q104, hf⟩ := bind_s hf
  refine vv_callIN 62 (st := [.ref b99, .int (7 : Int32), .ref b98]) (As := []) (stk2 := [.ref b99, .int (7 : Int32), .ref b98]) (cl2 := 21) (sl2 := 1745) dX7_init_59 rfl lk_RX7_37 w_202 rfl ⟨(Nat.le_of_ble_eq_true rfl), (Nat.le_of_ble_eq_true rfl)⟩ rfl rfl ⟨(Nat.le_of_ble_eq_true rfl), (Nat.le_of_ble_eq_true rfl)⟩ rfl (Nat.le_of_ble_eq_true rfl) rfl rfl rfl rfl (c_X0_init t_b99 g_q104) ?_
  have t_105 := e_X0_init g_q104 _ _ t_102
  have t_106 := arrK (e_X0_init g_q104 _ _ t_103)
  have t_107 := e_X0_init g_q104 _ _ t_b99
  obtain ⟨m108, g_m108, hf⟩ := bind_s hf
  refine vv_aast4 63 dX7_init_62 rfl t_106 t_107 g_m108 ?_
  refine vv_iincE (q := 66) (v := 8) (c := 1) (L' := [some (.ref a0), some (.int (8 : Int32))]) (by decide) dX7_init_63 rfl rfl (by decide) (Nat.le_of_ble_eq_true rfl) rfl ?_
  refine vv_goto 44 dX7_init_66 (by decide) ?_
  refine vv_iload_n 45 dX7_init_44 rfl rfl ?_
  refine vv_bipush 47 (v := 16) dX7_init_45 rfl (by decide) ?_
  refine vv_icmp_ge 69 50 dX7_init_47 rfl (by decide) (fun h => absurd h (by decide)) (fun _ => ?_)
  refine vv_aload_n 51 dX7_init_50 rfl rfl ?_
  obtain ⟨b109, g_b109, hf⟩ := bind_s hf
  have t_b109 := (ldA_spec g_b109).2
  refine gf_RX7_11 54 dX7_init_51 rfl t_105 (ldA_spec g_b109).1 ?_
  refine vv_iload_n 55 dX7_init_54 rfl rfl ?_
  obtain ⟨b110, e_b110, hf⟩ := bd_s hf
  obtain ⟨K111, e_K111, hf⟩ := bd_s hf
  obtain ⟨m112, e_m112, hf⟩ := bd_s hf
  refine vv_newE 58 (cl2 := 22) (sl2 := 1754) e_b110 e_K111 e_m112 dX7_init_55 rfl (ci := 0) rfl inX0 (by decide +kernel) (by decide) w_93 w_200 w_67 (Nat.le_of_ble_eq_true rfl) (Nat.le_of_ble_eq_true rfl) rfl rfl (fun t_b110 => ?_)
  have t_113 := upK_oldE e_K111 t_105
  have t_114 := arrK (upK_oldE e_K111 t_b109)
  refine vv_dup 59 dX7_init_58 rfl rfl ?_
  obtain ⟨q115, g_q115, hf⟩ := bind_s hf
  refine vv_callIN 62 (st := [.ref b110, .int (8 : Int32), .ref b109]) (As := []) (stk2 := [.ref b110, .int (8 : Int32), .ref b109]) (cl2 := 23) (sl2 := 1954) dX7_init_59 rfl lk_RX7_37 w_202 rfl ⟨(Nat.le_of_ble_eq_true rfl), (Nat.le_of_ble_eq_true rfl)⟩ rfl rfl ⟨(Nat.le_of_ble_eq_true rfl), (Nat.le_of_ble_eq_true rfl)⟩ rfl (Nat.le_of_ble_eq_true rfl) rfl rfl rfl rfl (c_X0_init t_b110 g_q115) ?_
  have t_116 := e_X0_init g_q115 _ _ t_113
  have t_117 := arrK (e_X0_init g_q115 _ _ t_114)
  have t_118 := e_X0_init g_q115 _ _ t_b110
  obtain ⟨m119, g_m119, hf⟩ := bind_s hf
  refine vv_aast4 63 dX7_init_62 rfl t_117 t_118 g_m119 ?_
  refine vv_iincE (q := 66) (v := 9) (c := 1) (L' := [some (.ref a0), some (.int (9 : Int32))]) (by decide) dX7_init_63 rfl rfl (by decide) (Nat.le_of_ble_eq_true rfl) rfl ?_
  refine vv_goto 44 dX7_init_66 (by decide) ?_
  refine vv_iload_n 45 dX7_init_44 rfl rfl ?_
  refine vv_bipush 47 (v := 16) dX7_init_45 rfl (by decide) ?_
  refine vv_icmp_ge 69 50 dX7_init_47 rfl (by decide) (fun h => absurd h (by decide)) (fun _ => ?_)
  refine vv_aload_n 51 dX7_init_50 rfl rfl ?_
  obtain ⟨b120, g_b120, hf⟩ := bind_s hf
  have t_b120 := (ldA_spec g_b120).2
  refine gf_RX7_11 54 dX7_init_51 rfl t_116 (ldA_spec g_b120).1 ?_
  refine vv_iload_n 55 dX7_init_54 rfl rfl ?_
  obtain ⟨b121, e_b121, hf⟩ := bd_s hf
  obtain ⟨K122, e_K122, hf⟩ := bd_s hf
  obtain ⟨m123, e_m123, hf⟩ := bd_s hf
  refine vv_newE 58 (cl2 := 24) (sl2 := 1963) e_b121 e_K122 e_m123 dX7_init_55 rfl (ci := 0) rfl inX0 (by decide +kernel) (by decide) w_93 w_200 w_67 (Nat.le_of_ble_eq_true rfl) (Nat.le_of_ble_eq_true rfl) rfl rfl (fun t_b121 => ?_)
  have t_124 := upK_oldE e_K122 t_116
  have t_125 := arrK (upK_oldE e_K122 t_b120)
  refine vv_dup 59 dX7_init_58 rfl rfl ?_
  obtain ⟨q126, g_q126, hf⟩ := bind_s hf
  refine vv_callIN 62 (st := [.ref b121, .int (9 : Int32), .ref b120]) (As := []) (stk2 := [.ref b121, .int (9 : Int32), .ref b120]) (cl2 := 25) (sl2 := 2163) dX7_init_59 rfl lk_RX7_37 w_202 rfl ⟨(Nat.le_of_ble_eq_true rfl), (Nat.le_of_ble_eq_true rfl)⟩ rfl rfl ⟨(Nat.le_of_ble_eq_true rfl), (Nat.le_of_ble_eq_true rfl)⟩ rfl (Nat.le_of_ble_eq_true rfl) rfl rfl rfl rfl (c_X0_init t_b121 g_q126) ?_
  have t_127 := e_X0_init g_q126 _ _ t_124
  have t_128 := arrK (e_X0_init g_q126 _ _ t_125)
  have t_129 := e_X0_init g_q126 _ _ t_b121
  obtain ⟨m130, g_m130, hf⟩ := bind_s hf
  refine vv_aast4 63 dX7_init_62 rfl t_128 t_129 g_m130 ?_
  refine vv_iincE (q := 66) (v := 10) (c := 1) (L' := [some (.ref a0), some (.int (10 : Int32))]) (by decide) dX7_init_63 rfl rfl (by decide) (Nat.le_of_ble_eq_true rfl) rfl ?_
  refine vv_goto 44 dX7_init_66 (by decide) ?_
  refine vv_iload_n 45 dX7_init_44 rfl rfl ?_
  refine vv_bipush 47 (v := 16) dX7_init_45 rfl (by decide) ?_
  refine vv_icmp_ge 69 50 dX7_init_47 rfl (by decide) (fun h => absurd h (by decide)) (fun _ => ?_)
  refine vv_aload_n 51 dX7_init_50 rfl rfl ?_
  obtain ⟨b131, g_b131, hf⟩ := bind_s hf
  have t_b131 := (ldA_spec g_b131).2
  refine gf_RX7_11 54 dX7_init_51 rfl t_127 (ldA_spec g_b131).1 ?_
  refine vv_iload_n 55 dX7_init_54 rfl rfl ?_
  obtain ⟨b132, e_b132, hf⟩ := bd_s hf
  obtain ⟨K133, e_K133, hf⟩ := bd_s hf
  obtain ⟨m134, e_m134, hf⟩ := bd_s hf
  refine vv_newE 58 (cl2 := 26) (sl2 := 2172) e_b132 e_K133 e_m134 dX7_init_55 rfl (ci := 0) rfl inX0 (by decide +kernel) (by decide) w_93 w_200 w_67 (Nat.le_of_ble_eq_true rfl) (Nat.le_of_ble_eq_true rfl) rfl rfl (fun t_b132 => ?_)
  have t_135 := upK_oldE e_K133 t_127
  have t_136 := arrK (upK_oldE e_K133 t_b131)
  refine vv_dup 59 dX7_init_58 rfl rfl ?_
  obtain ⟨q137, g_q137, hf⟩ := bind_s hf
  refine vv_callIN 62 (st := [.ref b132, .int (10 : Int32), .ref b131]) (As := []) (stk2 := [.ref b132, .int (10 : Int32), .ref b131]) (cl2 := 27) (sl2 := 2372) dX7_init_59 rfl lk_RX7_37 w_202 rfl ⟨(Nat.le_of_ble_eq_true rfl), (Nat.le_of_ble_eq_true rfl)⟩ rfl rfl ⟨(Nat.le_of_ble_eq_true rfl), (Nat.le_of_ble_eq_true rfl)⟩ rfl (Nat.le_of_ble_eq_true rfl) rfl rfl rfl rfl (c_X0_init t_b132 g_q137) ?_
  have t_138 := e_X0_init g_q137 _ _ t_135
  have t_139 := arrK (e_X0_init g_q137 _ _ t_136)
  have t_140 := e_X0_init g_q137 _ _ t_b132
  obtain ⟨m141, g_m141, hf⟩ := bind_s hf
  refine vv_aast4 63 dX7_init_62 rfl t_139 t_140 g_m141 ?_
  refine vv_iincE (q := 66) (v := 11) (c := 1) (L' := [some (.ref a0), some (.int (11 : Int32))]) (by decide) dX7_init_63 rfl rfl (by decide) (Nat.le_of_ble_eq_true rfl) rfl ?_
  refine vv_goto 44 dX7_init_66 (by decide) ?_
  refine vv_iload_n 45 dX7_init_44 rfl rfl ?_
  refine vv_bipush 47 (v := 16) dX7_init_45 rfl (by decide) ?_
  refine vv_icmp_ge 69 50 dX7_init_47 rfl (by decide) (fun h => absurd h (by decide)) (fun _ => ?_)
  refine vv_aload_n 51 dX7_init_50 rfl rfl ?_
  obtain ⟨b142, g_b142, hf⟩ := bind_s hf
  have t_b142 := (ldA_spec g_b142).2
  refine gf_RX7_11 54 dX7_init_51 rfl t_138 (ldA_spec g_b142).1 ?_
  refine vv_iload_n 55 dX7_init_54 rfl rfl ?_
  obtain ⟨b143, e_b143, hf⟩ := bd_s hf
  obtain ⟨K144, e_K144, hf⟩ := bd_s hf
  obtain ⟨m145, e_m145, hf⟩ := bd_s hf
  refine vv_newE 58 (cl2 := 28) (sl2 := 2381) e_b143 e_K144 e_m145 dX7_init_55 rfl (ci := 0) rfl inX0 (by decide +kernel) (by decide) w_93 w_200 w_67 (Nat.le_of_ble_eq_true rfl) (Nat.le_of_ble_eq_true rfl) rfl rfl (fun t_b143 => ?_)
  have t_146 := upK_oldE e_K144 t_138
  have t_147 := arrK (upK_oldE e_K144 t_b142)
  refine vv_dup 59 dX7_init_58 rfl rfl ?_
  obtain ⟨q148, g_q148, hf⟩ := bind_s hf
  refine vv_callIN 62 (st := [.ref b143, .int (11 : Int32), .ref b142]) (As := []) (stk2 := [.ref b143, .int (11 : Int32), .ref b142]) (cl2 := 29) (sl2 := 2581) dX7_init_59 rfl lk_RX7_37 w_202 rfl ⟨(Nat.le_of_ble_eq_true rfl), (Nat.le_of_ble_eq_true rfl)⟩ rfl rfl ⟨(Nat.le_of_ble_eq_true rfl), (Nat.le_of_ble_eq_true rfl)⟩ rfl (Nat.le_of_ble_eq_true rfl) rfl rfl rfl rfl (c_X0_init t_b143 g_q148) ?_
  have t_149 := e_X0_init g_q148 _ _ t_146
  have t_150 := arrK (e_X0_init g_q148 _ _ t_147)
  have t_151 := e_X0_init g_q148 _ _ t_b143
  obtain ⟨m152, g_m152, hf⟩ := bind_s hf
  refine vv_aast4 63 dX7_init_62 rfl t_150 t_151 g_m152 ?_
  refine vv_iincE (q := 66) (v := 12) (c := 1) (L' := [some (.ref a0), some (.int (12 : Int32))]) (by decide) dX7_init_63 rfl rfl (by decide) (Nat.le_of_ble_eq_true rfl) rfl ?_
  refine vv_goto 44 dX7_init_66 (by decide) ?_
  refine vv_iload_n 45 dX7_init_44 rfl rfl ?_
  refine vv_bipush 47 (v := 16) dX7_init_45 rfl (by decide) ?_
  refine vv_icmp_ge 69 50 dX7_init_47 rfl (by decide) (fun h => absurd h (by decide)) (fun _ => ?_)
  refine vv_aload_n 51 dX7_init_50 rfl rfl ?_
  obtain ⟨b153, g_b153, hf⟩ := bind_s hf
  have t_b153 := (ldA_spec g_b153).2
  refine gf_RX7_11 54 dX7_init_51 rfl t_149 (ldA_spec g_b153).1 ?_
  refine vv_iload_n 55 dX7_init_54 rfl rfl ?_
  obtain ⟨b154, e_b154, hf⟩ := bd_s hf
  obtain ⟨K155, e_K155, hf⟩ := bd_s hf
  obtain ⟨m156, e_m156, hf⟩ := bd_s hf
  refine vv_newE 58 (cl2 := 30) (sl2 := 2590) e_b154 e_K155 e_m156 dX7_init_55 rfl (ci := 0) rfl inX0 (by decide +kernel) (by decide) w_93 w_200 w_67 (Nat.le_of_ble_eq_true rfl) (Nat.le_of_ble_eq_true rfl) rfl rfl (fun t_b154 => ?_)
  have t_157 := upK_oldE e_K155 t_149
  have t_158 := arrK (upK_oldE e_K155 t_b153)
  refine vv_dup 59 dX7_init_58 rfl rfl ?_
  obtain ⟨q159, g_q159, hf⟩ := bind_s hf
  refine vv_callIN 62 (st := [.ref b154, .int (12 : Int32), .ref b153]) (As := []) (stk2 := [.ref b154, .int (12 : Int32), .ref b153]) (cl2 := 31) (sl2 := 2790) dX7_init_59 rfl lk_RX7_37 w_202 rfl ⟨(Nat.le_of_ble_eq_true rfl), (Nat.le_of_ble_eq_true rfl)⟩ rfl rfl ⟨(Nat.le_of_ble_eq_true rfl), (Nat.le_of_ble_eq_true rfl)⟩ rfl (Nat.le_of_ble_eq_true rfl) rfl rfl rfl rfl (c_X0_init t_b154 g_q159) ?_
  have t_160 := e_X0_init g_q159 _ _ t_157
  have t_161 := arrK (e_X0_init g_q159 _ _ t_158)
  have t_162 := e_X0_init g_q159 _ _ t_b154
  obtain ⟨m163, g_m163, hf⟩ := bind_s hf
  refine vv_aast4 63 dX7_init_62 rfl t_161 t_162 g_m163 ?_
  refine vv_iincE (q := 66) (v := 13) (c := 1) (L' := [some (.ref a0), some (.int (13 : Int32))]) (by decide) dX7_init_63 rfl rfl (by decide) (Nat.le_of_ble_eq_true rfl) rfl ?_
  refine vv_goto 44 dX7_init_66 (by decide) ?_
  refine vv_iload_n 45 dX7_init_44 rfl rfl ?_
  refine vv_bipush 47 (v := 16) dX7_init_45 rfl (by decide) ?_
  refine vv_icmp_ge 69 50 dX7_init_47 rfl (by decide) (fun h => absurd h (by decide)) (fun _ => ?_)
  refine vv_aload_n 51 dX7_init_50 rfl rfl ?_
  obtain ⟨b164, g_b164, hf⟩ := bind_s hf
  have t_b164 := (ldA_spec g_b164).2
  refine gf_RX7_11 54 dX7_init_51 rfl t_160 (ldA_spec g_b164).1 ?_
  refine vv_iload_n 55 dX7_init_54 rfl rfl ?_
  obtain ⟨b165, e_b165, hf⟩ := bd_s hf
  obtain ⟨K166, e_K166, hf⟩ := bd_s hf
  obtain ⟨m167, e_m167, hf⟩ := bd_s hf
  refine vv_newE 58 (cl2 := 32) (sl2 := 2799) e_b165 e_K166 e_m167 dX7_init_55 rfl (ci := 0) rfl inX0 (by decide +kernel) (by decide) w_93 w_200 w_67 (Nat.le_of_ble_eq_true rfl) (Nat.le_of_ble_eq_true rfl) rfl rfl (fun t_b165 => ?_)
  have t_168 := upK_oldE e_K166 t_160
  have t_169 := arrK (upK_oldE e_K166 t_b164)
  refine vv_dup 59 dX7_init_58 rfl rfl ?_
  obtain ⟨q170, g_q170, hf⟩ := bind_s hf
  refine vv_callIN 62 (st := [.ref b165, .int (13 : Int32), .ref b164]) (As := []) (stk2 := [.ref b165, .int (13 : Int32), .ref b164]) (cl2 := 33) (sl2 := 2999) dX7_init_59 rfl lk_RX7_37 w_202 rfl ⟨(Nat.le_of_ble_eq_true rfl), (Nat.le_of_ble_eq_true rfl)⟩ rfl rfl ⟨(Nat.le_of_ble_eq_true rfl), (Nat.le_of_ble_eq_true rfl)⟩ rfl (Nat.le_of_ble_eq_true rfl) rfl rfl rfl rfl (c_X0_init t_b165 g_q170) ?_
  have t_171 := e_X0_init g_q170 _ _ t_168
  have t_172 := arrK (e_X0_init g_q170 _ _ t_169)
  have t_173 := e_X0_init g_q170 _ _ t_b165
  obtain ⟨m174, g_m174, hf⟩ := bind_s hf
  refine vv_aast4 63 dX7_init_62 rfl t_172 t_173 g_m174 ?_
  refine vv_iincE (q := 66) (v := 14) (c := 1) (L' := [some (.ref a0), some (.int (14 : Int32))]) (by decide) dX7_init_63 rfl rfl (by decide) (Nat.le_of_ble_eq_true rfl) rfl ?_
  refine vv_goto 44 dX7_init_66 (by decide) ?_
  refine vv_iload_n 45 dX7_init_44 rfl rfl ?_
  refine vv_bipush 47 (v := 16) dX7_init_45 rfl (by decide) ?_
  refine vv_icmp_ge 69 50 dX7_init_47 rfl (by decide) (fun h => absurd h (by decide)) (fun _ => ?_)
  refine vv_aload_n 51 dX7_init_50 rfl rfl ?_
  obtain ⟨b175, g_b175, hf⟩ := bind_s hf
  have t_b175 := (ldA_spec g_b175).2
  refine gf_RX7_11 54 dX7_init_51 rfl t_171 (ldA_spec g_b175).1 ?_
  refine vv_iload_n 55 dX7_init_54 rfl rfl ?_
  obtain ⟨b176, e_b176, hf⟩ := bd_s hf
  obtain ⟨K177, e_K177, hf⟩ := bd_s hf
  obtain ⟨m178, e_m178, hf⟩ := bd_s hf
  refine vv_newE 58 (cl2 := 34) (sl2 := 3008) e_b176 e_K177 e_m178 dX7_init_55 rfl (ci := 0) rfl inX0 (by decide +kernel) (by decide) w_93 w_200 w_67 (Nat.le_of_ble_eq_true rfl) (Nat.le_of_ble_eq_true rfl) rfl rfl (fun t_b176 => ?_)
  have t_179 := upK_oldE e_K177 t_171
  have t_180 := arrK (upK_oldE e_K177 t_b175)
  refine vv_dup 59 dX7_init_58 rfl rfl ?_
  obtain ⟨q181, g_q181, hf⟩ := bind_s hf
  refine vv_callIN 62 (st := [.ref b176, .int (14 : Int32), .ref b175]) (As := []) (stk2 := [.ref b176, .int (14 : Int32), .ref b175]) (cl2 := 35) (sl2 := 3208) dX7_init_59 rfl lk_RX7_37 w_202 rfl ⟨(Nat.le_of_ble_eq_true rfl), (Nat.le_of_ble_eq_true rfl)⟩ rfl rfl ⟨(Nat.le_of_ble_eq_true rfl), (Nat.le_of_ble_eq_true rfl)⟩ rfl (Nat.le_of_ble_eq_true rfl) rfl rfl rfl rfl (c_X0_init t_b176 g_q181) ?_
  have t_182 := e_X0_init g_q181 _ _ t_179
  have t_183 := arrK (e_X0_init g_q181 _ _ t_180)
  have t_184 := e_X0_init g_q181 _ _ t_b176
  obtain ⟨m185, g_m185, hf⟩ := bind_s hf
  refine vv_aast4 63 dX7_init_62 rfl t_183 t_184 g_m185 ?_
  refine vv_iincE (q := 66) (v := 15) (c := 1) (L' := [some (.ref a0), some (.int (15 : Int32))]) (by decide) dX7_init_63 rfl rfl (by decide) (Nat.le_of_ble_eq_true rfl) rfl ?_
  refine vv_goto 44 dX7_init_66 (by decide) ?_
  refine vv_iload_n 45 dX7_init_44 rfl rfl ?_
  refine vv_bipush 47 (v := 16) dX7_init_45 rfl (by decide) ?_
  refine vv_icmp_ge 69 50 dX7_init_47 rfl (by decide) (fun h => absurd h (by decide)) (fun _ => ?_)
  refine vv_aload_n 51 dX7_init_50 rfl rfl ?_
  obtain ⟨b186, g_b186, hf⟩ := bind_s hf
  have t_b186 := (ldA_spec g_b186).2
  refine gf_RX7_11 54 dX7_init_51 rfl t_182 (ldA_spec g_b186).1 ?_
  refine vv_iload_n 55 dX7_init_54 rfl rfl ?_
  obtain ⟨b187, e_b187, hf⟩ := bd_s hf
  obtain ⟨K188, e_K188, hf⟩ := bd_s hf
  obtain ⟨m189, e_m189, hf⟩ := bd_s hf
  refine vv_newE 58 (cl2 := 36) (sl2 := 3217) e_b187 e_K188 e_m189 dX7_init_55 rfl (ci := 0) rfl inX0 (by decide +kernel) (by decide) w_93 w_200 w_67 (Nat.le_of_ble_eq_true rfl) (Nat.le_of_ble_eq_true rfl) rfl rfl (fun t_b187 => ?_)
  have t_190 := upK_oldE e_K188 t_182
  have t_191 := arrK (upK_oldE e_K188 t_b186)
  refine vv_dup 59 dX7_init_58 rfl rfl ?_
  obtain ⟨q192, g_q192, hf⟩ := bind_s hf
  refine vv_callIN 62 (st := [.ref b187, .int (15 : Int32), .ref b186]) (As := []) (stk2 := [.ref b187, .int (15 : Int32), .ref b186]) (cl2 := 37) (sl2 := 3417) dX7_init_59 rfl lk_RX7_37 w_202 rfl ⟨(Nat.le_of_ble_eq_true rfl), (Nat.le_of_ble_eq_true rfl)⟩ rfl rfl ⟨(Nat.le_of_ble_eq_true rfl), (Nat.le_of_ble_eq_true rfl)⟩ rfl (Nat.le_of_ble_eq_true rfl) rfl rfl rfl rfl (c_X0_init t_b187 g_q192) ?_
  have t_193 := e_X0_init g_q192 _ _ t_190
  have t_194 := arrK (e_X0_init g_q192 _ _ t_191)
  have t_195 := e_X0_init g_q192 _ _ t_b187
  obtain ⟨m196, g_m196, hf⟩ := bind_s hf
  refine vv_aast4 63 dX7_init_62 rfl t_194 t_195 g_m196 ?_
  refine vv_iincE (q := 66) (v := 16) (c := 1) (L' := [some (.ref a0), some (.int (16 : Int32))]) (by decide) dX7_init_63 rfl rfl (by decide) (Nat.le_of_ble_eq_true rfl) rfl ?_
  refine vv_goto 44 dX7_init_66 (by decide) ?_
  refine vv_iload_n 45 dX7_init_44 rfl rfl ?_
  refine vv_bipush 47 (v := 16) dX7_init_45 rfl (by decide) ?_
  refine vv_icmp_ge 69 50 dX7_init_47 rfl (by decide) (fun _ => ?_) (fun h => absurd h (by decide))
  obtain rfl := Option.some.inj hf
  exact vv_vret dX7_init_69 rfl

theorem c_X7_init {w : Wo} {K : Kn} {a0 : Nat} {q : (Kn × Mem)} {m : Mem} (t_a0 : K a0 = some (.inl 6)) (hf : F_X7_init K m a0 = some q) : MM w K q.1 yX7_init cX7_init 2 none rm_X7_init [.ref a0] m none q.2 37 3417 :=
  mm_of (ini := true) (n := 1) (plainFor_of_name (by decide)) rfl (fun h => by first | rfl | cases h) (Nat.le_of_ble_eq_true rfl) rfl (v_X7_init_0 t_a0 hf)

set_option maxRecDepth 100000 in
theorem e_X7_init {K : Kn} {a0 : Nat} {q : (Kn × Mem)} {m : Mem} (hf : F_X7_init K m a0 = some q) : ∀ x c, K x = some c → q.1 x = some c := by
  unfold F_X7_init f_X7_init at hf
  obtain ⟨b1, e_b1, hf⟩ := bd_s hf
  obtain ⟨K2, e_K2, hf⟩ := bd_s hf
  obtain ⟨m3, e_m3, hf⟩ := bd_s hf
  obtain ⟨m5, e_m5, hf⟩ := bd_s hf
  obtain ⟨b6, e_b6, hf⟩ := bd_s hf
  obtain ⟨K7, e_K7, hf⟩ := bd_s hf
  obtain ⟨m8, e_m8, hf⟩ := bd_s hf
  obtain ⟨q10, g_q10, hf⟩ := bind_s hf
  obtain ⟨m13, e_m13, hf⟩ := bd_s hf
  obtain ⟨b14, e_b14, hf⟩ := bd_s hf
  obtain ⟨K15, e_K15, hf⟩ := bd_s hf
  obtain ⟨m16, e_m16, hf⟩ := bd_s hf
  obtain ⟨q18, g_q18, hf⟩ := bind_s hf
  obtain ⟨m19, e_m19, hf⟩ := bd_s hf
  obtain ⟨m20, e_m20, hf⟩ := bd_s hf
  obtain ⟨b21, g_b21, hf⟩ := bind_s hf
  obtain ⟨b22, e_b22, hf⟩ := bd_s hf
  obtain ⟨K23, e_K23, hf⟩ := bd_s hf
  obtain ⟨m24, e_m24, hf⟩ := bd_s hf
  obtain ⟨q27, g_q27, hf⟩ := bind_s hf
  obtain ⟨m31, g_m31, hf⟩ := bind_s hf
  obtain ⟨b32, g_b32, hf⟩ := bind_s hf
  obtain ⟨b33, e_b33, hf⟩ := bd_s hf
  obtain ⟨K34, e_K34, hf⟩ := bd_s hf
  obtain ⟨m35, e_m35, hf⟩ := bd_s hf
  obtain ⟨q38, g_q38, hf⟩ := bind_s hf
  obtain ⟨m42, g_m42, hf⟩ := bind_s hf
  obtain ⟨b43, g_b43, hf⟩ := bind_s hf
  obtain ⟨b44, e_b44, hf⟩ := bd_s hf
  obtain ⟨K45, e_K45, hf⟩ := bd_s hf
  obtain ⟨m46, e_m46, hf⟩ := bd_s hf
  obtain ⟨q49, g_q49, hf⟩ := bind_s hf
  obtain ⟨m53, g_m53, hf⟩ := bind_s hf
  obtain ⟨b54, g_b54, hf⟩ := bind_s hf
  obtain ⟨b55, e_b55, hf⟩ := bd_s hf
  obtain ⟨K56, e_K56, hf⟩ := bd_s hf
  obtain ⟨m57, e_m57, hf⟩ := bd_s hf
  obtain ⟨q60, g_q60, hf⟩ := bind_s hf
  obtain ⟨m64, g_m64, hf⟩ := bind_s hf
  obtain ⟨b65, g_b65, hf⟩ := bind_s hf
  obtain ⟨b66, e_b66, hf⟩ := bd_s hf
  obtain ⟨K67, e_K67, hf⟩ := bd_s hf
  obtain ⟨m68, e_m68, hf⟩ := bd_s hf
  obtain ⟨q71, g_q71, hf⟩ := bind_s hf
  obtain ⟨m75, g_m75, hf⟩ := bind_s hf
  obtain ⟨b76, g_b76, hf⟩ := bind_s hf
  obtain ⟨b77, e_b77, hf⟩ := bd_s hf
  obtain ⟨K78, e_K78, hf⟩ := bd_s hf
  obtain ⟨m79, e_m79, hf⟩ := bd_s hf
  obtain ⟨q82, g_q82, hf⟩ := bind_s hf
  obtain ⟨m86, g_m86, hf⟩ := bind_s hf
  obtain ⟨b87, g_b87, hf⟩ := bind_s hf
  obtain ⟨b88, e_b88, hf⟩ := bd_s hf
  obtain ⟨K89, e_K89, hf⟩ := bd_s hf
  obtain ⟨m90, e_m90, hf⟩ := bd_s hf
  obtain ⟨q93, g_q93, hf⟩ := bind_s hf
  obtain ⟨m97, g_m97, hf⟩ := bind_s hf
  obtain ⟨b98, g_b98, hf⟩ := bind_s hf
  obtain ⟨b99, e_b99, hf⟩ := bd_s hf
  obtain ⟨K100, e_K100, hf⟩ := bd_s hf
  obtain ⟨m101, e_m101, hf⟩ := bd_s hf
  obtain ⟨q104, g_q104, hf⟩ := bind_s hf
  obtain ⟨m108, g_m108, hf⟩ := bind_s hf
  obtain ⟨b109, g_b109, hf⟩ := bind_s hf
  obtain ⟨b110, e_b110, hf⟩ := bd_s hf
  obtain ⟨K111, e_K111, hf⟩ := bd_s hf
  obtain ⟨m112, e_m112, hf⟩ := bd_s hf
  obtain ⟨q115, g_q115, hf⟩ := bind_s hf
  obtain ⟨m119, g_m119, hf⟩ := bind_s hf
  obtain ⟨b120, g_b120, hf⟩ := bind_s hf
  obtain ⟨b121, e_b121, hf⟩ := bd_s hf
  obtain ⟨K122, e_K122, hf⟩ := bd_s hf
  obtain ⟨m123, e_m123, hf⟩ := bd_s hf
  obtain ⟨q126, g_q126, hf⟩ := bind_s hf
  obtain ⟨m130, g_m130, hf⟩ := bind_s hf
  obtain ⟨b131, g_b131, hf⟩ := bind_s hf
  obtain ⟨b132, e_b132, hf⟩ := bd_s hf
  obtain ⟨K133, e_K133, hf⟩ := bd_s hf
  obtain ⟨m134, e_m134, hf⟩ := bd_s hf
  obtain ⟨q137, g_q137, hf⟩ := bind_s hf
  obtain ⟨m141, g_m141, hf⟩ := bind_s hf
  obtain ⟨b142, g_b142, hf⟩ := bind_s hf
  obtain ⟨b143, e_b143, hf⟩ := bd_s hf
  obtain ⟨K144, e_K144, hf⟩ := bd_s hf
  obtain ⟨m145, e_m145, hf⟩ := bd_s hf
  obtain ⟨q148, g_q148, hf⟩ := bind_s hf
  obtain ⟨m152, g_m152, hf⟩ := bind_s hf
  obtain ⟨b153, g_b153, hf⟩ := bind_s hf
  obtain ⟨b154, e_b154, hf⟩ := bd_s hf
  obtain ⟨K155, e_K155, hf⟩ := bd_s hf
  obtain ⟨m156, e_m156, hf⟩ := bd_s hf
  obtain ⟨q159, g_q159, hf⟩ := bind_s hf
  obtain ⟨m163, g_m163, hf⟩ := bind_s hf
  obtain ⟨b164, g_b164, hf⟩ := bind_s hf
  obtain ⟨b165, e_b165, hf⟩ := bd_s hf
  obtain ⟨K166, e_K166, hf⟩ := bd_s hf
  obtain ⟨m167, e_m167, hf⟩ := bd_s hf
  obtain ⟨q170, g_q170, hf⟩ := bind_s hf
  obtain ⟨m174, g_m174, hf⟩ := bind_s hf
  obtain ⟨b175, g_b175, hf⟩ := bind_s hf
  obtain ⟨b176, e_b176, hf⟩ := bd_s hf
  obtain ⟨K177, e_K177, hf⟩ := bd_s hf
  obtain ⟨m178, e_m178, hf⟩ := bd_s hf
  obtain ⟨q181, g_q181, hf⟩ := bind_s hf
  obtain ⟨m185, g_m185, hf⟩ := bind_s hf
  obtain ⟨b186, g_b186, hf⟩ := bind_s hf
  obtain ⟨b187, e_b187, hf⟩ := bd_s hf
  obtain ⟨K188, e_K188, hf⟩ := bd_s hf
  obtain ⟨m189, e_m189, hf⟩ := bd_s hf
  obtain ⟨q192, g_q192, hf⟩ := bind_s hf
  obtain ⟨m196, g_m196, hf⟩ := bind_s hf
  obtain rfl := Option.some.inj hf
  cases hf
  intro x c h
  exact (e_X0_init g_q192 _ _ (upK_oldE e_K188 (e_X0_init g_q181 _ _ (upK_oldE e_K177 (e_X0_init g_q170 _ _ (upK_oldE e_K166 (e_X0_init g_q159 _ _ (upK_oldE e_K155 (e_X0_init g_q148 _ _ (upK_oldE e_K144 (e_X0_init g_q137 _ _ (upK_oldE e_K133 (e_X0_init g_q126 _ _ (upK_oldE e_K122 (e_X0_init g_q115 _ _ (upK_oldE e_K111 (e_X0_init g_q104 _ _ (upK_oldE e_K100 (e_X0_init g_q93 _ _ (upK_oldE e_K89 (e_X0_init g_q82 _ _ (upK_oldE e_K78 (e_X0_init g_q71 _ _ (upK_oldE e_K67 (e_X0_init g_q60 _ _ (upK_oldE e_K56 (e_X0_init g_q49 _ _ (upK_oldE e_K45 (e_X0_init g_q38 _ _ (upK_oldE e_K34 (e_X0_init g_q27 _ _ (upK_oldE e_K23 (upK_oldE e_K15 (e_X5_init_20 g_q10 _ _ (upK_oldE e_K7 (upK_oldE e_K2 h))))))))))))))))))))))))))))))))))))

set_option maxHeartbeats 4000000 in
theorem v_X4_init_0 {w : Wo} {K : Kn} {a0 : Nat} {a1 : Nat} {a2 : Nat} {q : Mem} (t_a0 : K a0 = some (.inl 3)) (t_a1 : K a1 = some (.inl 4)) (t_a2 : K a2 = some (.inl 4)) {m : Mem} (hf : f_X4_init K a0 a1 a2 m = some q) : VV w RX4 cX4_init 3 none rm_X4_init true (QM w K none q 0 0) K 0 [some (.ref a0), some (.ref a1), some (.ref a2)] [] 0 0 m := by
  unfold f_X4_init at hf
  refine vv_aload_n 1 dX4_init_0 rfl rfl ?_
  refine vv_objInit 4 dX4_init_1 rfl w_294 w_84 w_objcode (Nat.le_of_ble_eq_true rfl) (Nat.le_of_ble_eq_true rfl) ?_
  refine vv_aload_n 5 dX4_init_4 rfl rfl ?_
  refine vv_aload_n 6 dX4_init_5 rfl rfl ?_
  obtain ⟨m1, e_m1, hf⟩ := bd_s hf
  refine pf_RX4_7 9 dX4_init_6 rfl t_a0 e_m1 ?_
  refine vv_aload_n 10 dX4_init_9 rfl rfl ?_
  refine vv_aload_n 11 dX4_init_10 rfl rfl ?_
  obtain ⟨m2, e_m2, hf⟩ := bd_s hf
  refine pf_RX4_13 14 dX4_init_11 rfl t_a0 e_m2 ?_
  obtain rfl := Option.some.inj hf
  exact vv_vret dX4_init_14 rfl

theorem c_X4_init {w : Wo} {K : Kn} {a0 : Nat} {a1 : Nat} {a2 : Nat} {q : Mem} {m : Mem} (t_a0 : K a0 = some (.inl 3)) (t_a1 : K a1 = some (.inl 4)) (t_a2 : K a2 = some (.inl 4)) (hf : F_X4_init K m a0 a1 a2 = some q) : MM w K K yX4_init cX4_init 3 none rm_X4_init [.ref a0, .ref a1, .ref a2] m none q 0 0 :=
  mm_of (ini := true) (n := 0) (plainFor_of_name (by decide)) rfl (fun h => by first | rfl | cases h) (Nat.le_of_ble_eq_true rfl) rfl (v_X4_init_0 t_a0 t_a1 t_a2 hf)

set_option maxRecDepth 100000 in
set_option maxHeartbeats 4000000 in
theorem v_X6_init_0 {w : Wo} {K : Kn} {a0 : Nat} {q : (Kn × Mem)} {m : Mem} (t_a0 : K a0 = some (.inl 5)) (hf : f_X6_init K a0 m = some q) : VV w RX6 cX6_init 1 none rm_X6_init true (QM w q.1 none q.2 1 14) K 0 [some (.ref a0)] [] 0 0 m := by
  unfold f_X6_init at hf
  refine vv_aload_n 1 dX6_init_0 rfl rfl ?_
  refine vv_objInit 4 dX6_init_1 rfl w_330 w_84 w_objcode (Nat.le_of_ble_eq_true rfl) (Nat.le_of_ble_eq_true rfl) ?_
  refine vv_aload_n 5 dX6_init_4 rfl rfl ?_
  obtain ⟨b1, e_b1, hf⟩ := bd_s hf
  obtain ⟨K2, e_K2, hf⟩ := bd_s hf
  obtain ⟨m3, e_m3, hf⟩ := bd_s hf
  refine vv_newE 8 (cl2 := 1) (sl2 := 14) e_b1 e_K2 e_m3 dX6_init_5 rfl (ci := 1) rfl inX1 (by decide +kernel) (by decide) w_331 w_126 w_66 (Nat.le_of_ble_eq_true rfl) (Nat.le_of_ble_eq_true rfl) rfl rfl (fun t_b1 => ?_)
  have t_4 := upK_oldE e_K2 t_a0
  refine vv_dup 9 dX6_init_8 rfl rfl ?_
  obtain ⟨q5, g_q5, hf⟩ := bind_s hf
  refine vv_callIN 12 (st := [.ref b1, .ref a0]) (As := []) (stk2 := [.ref b1, .ref a0]) (cl2 := 1) (sl2 := 14) dX6_init_9 rfl lk_RX6_11 w_128 rfl ⟨(Nat.le_of_ble_eq_true rfl), (Nat.le_of_ble_eq_true rfl)⟩ rfl rfl ⟨(Nat.le_of_ble_eq_true rfl), (Nat.le_of_ble_eq_true rfl)⟩ rfl (Nat.le_of_ble_eq_true rfl) rfl rfl rfl rfl (c_X1_init t_b1 g_q5) ?_
  obtain ⟨m6, e_m6, hf⟩ := bd_s hf
  refine pf_RX6_12 15 dX6_init_12 rfl t_4 e_m6 ?_
  obtain rfl := Option.some.inj hf
  exact vv_vret dX6_init_15 rfl

theorem c_X6_init {w : Wo} {K : Kn} {a0 : Nat} {q : (Kn × Mem)} {m : Mem} (t_a0 : K a0 = some (.inl 5)) (hf : F_X6_init K m a0 = some q) : MM w K q.1 yX6_init cX6_init 1 none rm_X6_init [.ref a0] m none q.2 1 14 :=
  mm_of (ini := true) (n := 0) (plainFor_of_name (by decide)) rfl (fun h => by first | rfl | cases h) (Nat.le_of_ble_eq_true rfl) rfl (v_X6_init_0 t_a0 hf)

set_option maxRecDepth 100000 in
theorem e_X6_init {K : Kn} {a0 : Nat} {q : (Kn × Mem)} {m : Mem} (hf : F_X6_init K m a0 = some q) : ∀ x c, K x = some c → q.1 x = some c := by
  unfold F_X6_init f_X6_init at hf
  obtain ⟨b1, e_b1, hf⟩ := bd_s hf
  obtain ⟨K2, e_K2, hf⟩ := bd_s hf
  obtain ⟨m3, e_m3, hf⟩ := bd_s hf
  obtain ⟨q5, g_q5, hf⟩ := bind_s hf
  obtain ⟨m6, e_m6, hf⟩ := bd_s hf
  obtain rfl := Option.some.inj hf
  cases hf
  intro x c h
  exact (upK_oldE e_K2 h)

set_option maxHeartbeats 4000000 in
theorem v_X2_init_0 {w : Wo} {K : Kn} {a0 : Nat} {a1 : Nat} {q : Mem} (t_a0 : K a0 = some (.inl 2)) (t_a1 : K a1 = some (.inl 5)) {m : Mem} (hf : f_X2_init K a0 a1 m = some q) : VV w RX2 cX2_init 2 none rm_X2_init true (QM w K none q 0 0) K 0 [some (.ref a0), some (.ref a1)] [] 0 0 m := by
  unfold f_X2_init at hf
  refine vv_aload_n 1 dX2_init_0 rfl rfl ?_
  refine vv_objInit 4 dX2_init_1 rfl w_400 w_84 w_objcode (Nat.le_of_ble_eq_true rfl) (Nat.le_of_ble_eq_true rfl) ?_
  refine vv_aload_n 5 dX2_init_4 rfl rfl ?_
  refine vv_aload_n 6 dX2_init_5 rfl rfl ?_
  obtain ⟨m1, e_m1, hf⟩ := bd_s hf
  refine pf_RX2_7 9 dX2_init_6 rfl t_a0 e_m1 ?_
  obtain rfl := Option.some.inj hf
  exact vv_vret dX2_init_9 rfl

theorem c_X2_init {w : Wo} {K : Kn} {a0 : Nat} {a1 : Nat} {q : Mem} {m : Mem} (t_a0 : K a0 = some (.inl 2)) (t_a1 : K a1 = some (.inl 5)) (hf : F_X2_init K m a0 a1 = some q) : MM w K K yX2_init cX2_init 2 none rm_X2_init [.ref a0, .ref a1] m none q 0 0 :=
  mm_of (ini := true) (n := 0) (plainFor_of_name (by decide)) rfl (fun h => by first | rfl | cases h) (Nat.le_of_ble_eq_true rfl) rfl (v_X2_init_0 t_a0 t_a1 hf)

set_option maxRecDepth 100000 in
set_option maxHeartbeats 4000000 in
theorem v_X8_init_0 {w : Wo} {K : Kn} {a0 : Nat} {q : (Kn × Mem)} {m : Mem} (t_a0 : K a0 = some (.inl 7)) (hf : f_X8_init K a0 m = some q) : VV w RX8 cX8_init 2 none rm_X8_init true (QM w q.1 none q.2 204 64646) K 0 [some (.ref a0), none] [] 0 0 m := by
  unfold f_X8_init at hf
  refine vv_aload_n 1 dX8_init_0 rfl rfl ?_
  refine vv_objInit 4 dX8_init_1 rfl w_83 w_84 w_objcode (Nat.le_of_ble_eq_true rfl) (Nat.le_of_ble_eq_true rfl) ?_
  refine vv_aload_n 5 dX8_init_4 rfl rfl ?_
  refine vv_iconst 6 (v := 4) dX8_init_5 rfl (by decide) ?_
  obtain ⟨b1, e_b1, hf⟩ := bd_s hf
  obtain ⟨K2, e_K2, hf⟩ := bd_s hf
  obtain ⟨m3, e_m3, hf⟩ := bd_s hf
  refine vv_anew3E 9 4 (cl2 := 1) (sl2 := 4) e_b1 e_K2 e_m3 dX8_init_6 rfl w_86 (by decide) (by decide) (by decide) (Nat.le_of_ble_eq_true rfl) (Nat.le_of_ble_eq_true rfl) rfl rfl (fun t_b1 => ?_)
  have t_b1 := arrK t_b1
  have t_4 := upK_oldE e_K2 t_a0
  obtain ⟨m5, e_m5, hf⟩ := bd_s hf
  refine pf_RX8_11 12 dX8_init_9 rfl t_4 e_m5 ?_
  refine vv_iconst 13 (v := 0) dX8_init_12 rfl (by decide) ?_
  refine vv_istore_n 14 (L' := [some (.ref a0), some (.int (0 : Int32))]) dX8_init_13 rfl (Nat.le_of_ble_eq_true rfl) rfl ?_
  refine vv_iload_n 15 dX8_init_14 rfl rfl ?_
  refine vv_iconst 16 (v := 4) dX8_init_15 rfl (by decide) ?_
  refine vv_icmp_ge 38 19 dX8_init_16 rfl (by decide) (fun h => absurd h (by decide)) (fun _ => ?_)
  refine vv_aload_n 20 dX8_init_19 rfl rfl ?_
  obtain ⟨b6, g_b6, hf⟩ := bind_s hf
  have t_b6 := (ldA_spec g_b6).2
  refine gf_RX8_11 23 dX8_init_20 rfl t_4 (ldA_spec g_b6).1 ?_
  refine vv_iload_n 24 dX8_init_23 rfl rfl ?_
  obtain ⟨b7, e_b7, hf⟩ := bd_s hf
  obtain ⟨K8, e_K8, hf⟩ := bd_s hf
  obtain ⟨m9, e_m9, hf⟩ := bd_s hf
  refine vv_newE 27 (cl2 := 2) (sl2 := 11) e_b7 e_K8 e_m9 dX8_init_24 rfl (ci := 6) rfl inX7 (by decide +kernel) (by decide) w_86 w_88 w_64 (Nat.le_of_ble_eq_true rfl) (Nat.le_of_ble_eq_true rfl) rfl rfl (fun t_b7 => ?_)
  have t_10 := upK_oldE e_K8 t_4
  have t_11 := arrK (upK_oldE e_K8 t_b6)
  refine vv_dup 28 dX8_init_27 rfl rfl ?_
  obtain ⟨q12, g_q12, hf⟩ := bind_s hf
  refine vv_callI 31 (st := [.ref b7, .int (0 : Int32), .ref b6]) (As := []) (stk2 := [.ref b7, .int (0 : Int32), .ref b6]) (cl2 := 39) (sl2 := 3428) dX8_init_28 rfl lk_RX8_15 w_90 rfl ⟨(Nat.le_of_ble_eq_true rfl), (Nat.le_of_ble_eq_true rfl)⟩ rfl rfl ⟨(Nat.le_of_ble_eq_true rfl), (Nat.le_of_ble_eq_true rfl)⟩ rfl (Nat.le_of_ble_eq_true rfl) rfl rfl rfl rfl (c_X7_init t_b7 g_q12) ?_
  have t_13 := e_X7_init g_q12 _ _ t_10
  have t_14 := arrK (e_X7_init g_q12 _ _ t_11)
  have t_15 := e_X7_init g_q12 _ _ t_b7
  obtain ⟨m16, g_m16, hf⟩ := bind_s hf
  refine vv_aast3 32 dX8_init_31 rfl t_14 t_15 g_m16 ?_
  refine vv_iincE (q := 35) (v := 1) (c := 1) (L' := [some (.ref a0), some (.int (1 : Int32))]) (by decide) dX8_init_32 rfl rfl (by decide) (Nat.le_of_ble_eq_true rfl) rfl ?_
  refine vv_goto 14 dX8_init_35 (by decide) ?_
  refine vv_iload_n 15 dX8_init_14 rfl rfl ?_
  refine vv_iconst 16 (v := 4) dX8_init_15 rfl (by decide) ?_
  refine vv_icmp_ge 38 19 dX8_init_16 rfl (by decide) (fun h => absurd h (by decide)) (fun _ => ?_)
  refine vv_aload_n 20 dX8_init_19 rfl rfl ?_
  obtain ⟨b17, g_b17, hf⟩ := bind_s hf
  have t_b17 := (ldA_spec g_b17).2
  refine gf_RX8_11 23 dX8_init_20 rfl t_13 (ldA_spec g_b17).1 ?_
  refine vv_iload_n 24 dX8_init_23 rfl rfl ?_
  obtain ⟨b18, e_b18, hf⟩ := bd_s hf
  obtain ⟨K19, e_K19, hf⟩ := bd_s hf
  obtain ⟨m20, e_m20, hf⟩ := bd_s hf
  refine vv_newE 27 (cl2 := 40) (sl2 := 3435) e_b18 e_K19 e_m20 dX8_init_24 rfl (ci := 6) rfl inX7 (by decide +kernel) (by decide) w_86 w_88 w_64 (Nat.le_of_ble_eq_true rfl) (Nat.le_of_ble_eq_true rfl) rfl rfl (fun t_b18 => ?_)
  have t_21 := upK_oldE e_K19 t_13
  have t_22 := arrK (upK_oldE e_K19 t_b17)
  refine vv_dup 28 dX8_init_27 rfl rfl ?_
  obtain ⟨q23, g_q23, hf⟩ := bind_s hf
  refine vv_callI 31 (st := [.ref b18, .int (1 : Int32), .ref b17]) (As := []) (stk2 := [.ref b18, .int (1 : Int32), .ref b17]) (cl2 := 77) (sl2 := 6852) dX8_init_28 rfl lk_RX8_15 w_90 rfl ⟨(Nat.le_of_ble_eq_true rfl), (Nat.le_of_ble_eq_true rfl)⟩ rfl rfl ⟨(Nat.le_of_ble_eq_true rfl), (Nat.le_of_ble_eq_true rfl)⟩ rfl (Nat.le_of_ble_eq_true rfl) rfl rfl rfl rfl (c_X7_init t_b18 g_q23) ?_
  have t_24 := e_X7_init g_q23 _ _ t_21
  have t_25 := arrK (e_X7_init g_q23 _ _ t_22)
  have t_26 := e_X7_init g_q23 _ _ t_b18
  obtain ⟨m27, g_m27, hf⟩ := bind_s hf
  refine vv_aast3 32 dX8_init_31 rfl t_25 t_26 g_m27 ?_
  refine vv_iincE (q := 35) (v := 2) (c := 1) (L' := [some (.ref a0), some (.int (2 : Int32))]) (by decide) dX8_init_32 rfl rfl (by decide) (Nat.le_of_ble_eq_true rfl) rfl ?_
  refine vv_goto 14 dX8_init_35 (by decide) ?_
  refine vv_iload_n 15 dX8_init_14 rfl rfl ?_
  refine vv_iconst 16 (v := 4) dX8_init_15 rfl (by decide) ?_
  refine vv_icmp_ge 38 19 dX8_init_16 rfl (by decide) (fun h => absurd h (by decide)) (fun _ => ?_)
  refine vv_aload_n 20 dX8_init_19 rfl rfl ?_
  obtain ⟨b28, g_b28, hf⟩ := bind_s hf
  have t_b28 := (ldA_spec g_b28).2
  refine gf_RX8_11 23 dX8_init_20 rfl t_24 (ldA_spec g_b28).1 ?_
  refine vv_iload_n 24 dX8_init_23 rfl rfl ?_
  obtain ⟨b29, e_b29, hf⟩ := bd_s hf
  obtain ⟨K30, e_K30, hf⟩ := bd_s hf
  obtain ⟨m31, e_m31, hf⟩ := bd_s hf
  refine vv_newE 27 (cl2 := 78) (sl2 := 6859) e_b29 e_K30 e_m31 dX8_init_24 rfl (ci := 6) rfl inX7 (by decide +kernel) (by decide) w_86 w_88 w_64 (Nat.le_of_ble_eq_true rfl) (Nat.le_of_ble_eq_true rfl) rfl rfl (fun t_b29 => ?_)
  have t_32 := upK_oldE e_K30 t_24
  have t_33 := arrK (upK_oldE e_K30 t_b28)
  refine vv_dup 28 dX8_init_27 rfl rfl ?_
  obtain ⟨q34, g_q34, hf⟩ := bind_s hf
  refine vv_callI 31 (st := [.ref b29, .int (2 : Int32), .ref b28]) (As := []) (stk2 := [.ref b29, .int (2 : Int32), .ref b28]) (cl2 := 115) (sl2 := 10276) dX8_init_28 rfl lk_RX8_15 w_90 rfl ⟨(Nat.le_of_ble_eq_true rfl), (Nat.le_of_ble_eq_true rfl)⟩ rfl rfl ⟨(Nat.le_of_ble_eq_true rfl), (Nat.le_of_ble_eq_true rfl)⟩ rfl (Nat.le_of_ble_eq_true rfl) rfl rfl rfl rfl (c_X7_init t_b29 g_q34) ?_
  have t_35 := e_X7_init g_q34 _ _ t_32
  have t_36 := arrK (e_X7_init g_q34 _ _ t_33)
  have t_37 := e_X7_init g_q34 _ _ t_b29
  obtain ⟨m38, g_m38, hf⟩ := bind_s hf
  refine vv_aast3 32 dX8_init_31 rfl t_36 t_37 g_m38 ?_
  refine vv_iincE (q := 35) (v := 3) (c := 1) (L' := [some (.ref a0), some (.int (3 : Int32))]) (by decide) dX8_init_32 rfl rfl (by decide) (Nat.le_of_ble_eq_true rfl) rfl ?_
  refine vv_goto 14 dX8_init_35 (by decide) ?_
  refine vv_iload_n 15 dX8_init_14 rfl rfl ?_
  refine vv_iconst 16 (v := 4) dX8_init_15 rfl (by decide) ?_
  refine vv_icmp_ge 38 19 dX8_init_16 rfl (by decide) (fun h => absurd h (by decide)) (fun _ => ?_)
  refine vv_aload_n 20 dX8_init_19 rfl rfl ?_
  obtain ⟨b39, g_b39, hf⟩ := bind_s hf
  have t_b39 := (ldA_spec g_b39).2
  refine gf_RX8_11 23 dX8_init_20 rfl t_35 (ldA_spec g_b39).1 ?_
  refine vv_iload_n 24 dX8_init_23 rfl rfl ?_
  obtain ⟨b40, e_b40, hf⟩ := bd_s hf
  obtain ⟨K41, e_K41, hf⟩ := bd_s hf
  obtain ⟨m42, e_m42, hf⟩ := bd_s hf
  refine vv_newE 27 (cl2 := 116) (sl2 := 10283) e_b40 e_K41 e_m42 dX8_init_24 rfl (ci := 6) rfl inX7 (by decide +kernel) (by decide) w_86 w_88 w_64 (Nat.le_of_ble_eq_true rfl) (Nat.le_of_ble_eq_true rfl) rfl rfl (fun t_b40 => ?_)
  have t_43 := upK_oldE e_K41 t_35
  have t_44 := arrK (upK_oldE e_K41 t_b39)
  refine vv_dup 28 dX8_init_27 rfl rfl ?_
  obtain ⟨q45, g_q45, hf⟩ := bind_s hf
  refine vv_callI 31 (st := [.ref b40, .int (3 : Int32), .ref b39]) (As := []) (stk2 := [.ref b40, .int (3 : Int32), .ref b39]) (cl2 := 153) (sl2 := 13700) dX8_init_28 rfl lk_RX8_15 w_90 rfl ⟨(Nat.le_of_ble_eq_true rfl), (Nat.le_of_ble_eq_true rfl)⟩ rfl rfl ⟨(Nat.le_of_ble_eq_true rfl), (Nat.le_of_ble_eq_true rfl)⟩ rfl (Nat.le_of_ble_eq_true rfl) rfl rfl rfl rfl (c_X7_init t_b40 g_q45) ?_
  have t_46 := e_X7_init g_q45 _ _ t_43
  have t_47 := arrK (e_X7_init g_q45 _ _ t_44)
  have t_48 := e_X7_init g_q45 _ _ t_b40
  obtain ⟨m49, g_m49, hf⟩ := bind_s hf
  refine vv_aast3 32 dX8_init_31 rfl t_47 t_48 g_m49 ?_
  refine vv_iincE (q := 35) (v := 4) (c := 1) (L' := [some (.ref a0), some (.int (4 : Int32))]) (by decide) dX8_init_32 rfl rfl (by decide) (Nat.le_of_ble_eq_true rfl) rfl ?_
  refine vv_goto 14 dX8_init_35 (by decide) ?_
  refine vv_iload_n 15 dX8_init_14 rfl rfl ?_
  refine vv_iconst 16 (v := 4) dX8_init_15 rfl (by decide) ?_
  refine vv_icmp_ge 38 19 dX8_init_16 rfl (by decide) (fun _ => ?_) (fun h => absurd h (by decide))
  refine vv_aload_n 39 dX8_init_38 rfl rfl ?_
  obtain ⟨b50, e_b50, hf⟩ := bd_s hf
  obtain ⟨K51, e_K51, hf⟩ := bd_s hf
  obtain ⟨m52, e_m52, hf⟩ := bd_s hf
  refine vv_newE 42 (cl2 := 154) (sl2 := 13707) e_b50 e_K51 e_m52 dX8_init_39 rfl (ci := 6) rfl inX7 (by decide +kernel) (by decide) w_86 w_88 w_64 (Nat.le_of_ble_eq_true rfl) (Nat.le_of_ble_eq_true rfl) rfl rfl (fun t_b50 => ?_)
  have t_53 := upK_oldE e_K51 t_46
  refine vv_dup 43 dX8_init_42 rfl rfl ?_
  obtain ⟨q54, g_q54, hf⟩ := bind_s hf
  refine vv_callI 46 (st := [.ref b50, .ref a0]) (As := []) (stk2 := [.ref b50, .ref a0]) (cl2 := 191) (sl2 := 17124) dX8_init_43 rfl lk_RX8_15 w_90 rfl ⟨(Nat.le_of_ble_eq_true rfl), (Nat.le_of_ble_eq_true rfl)⟩ rfl rfl ⟨(Nat.le_of_ble_eq_true rfl), (Nat.le_of_ble_eq_true rfl)⟩ rfl (Nat.le_of_ble_eq_true rfl) rfl rfl rfl rfl (c_X7_init t_b50 g_q54) ?_
  have t_55 := e_X7_init g_q54 _ _ t_53
  have t_56 := e_X7_init g_q54 _ _ t_b50
  obtain ⟨m57, e_m57, hf⟩ := bd_s hf
  refine pf_RX8_16 49 dX8_init_46 rfl t_55 e_m57 ?_
  refine vv_aload_n 50 dX8_init_49 rfl rfl ?_
  obtain ⟨b58, e_b58, hf⟩ := bd_s hf
  obtain ⟨K59, e_K59, hf⟩ := bd_s hf
  obtain ⟨m60, e_m60, hf⟩ := bd_s hf
  refine vv_newE 53 (cl2 := 192) (sl2 := 17127) e_b58 e_K59 e_m60 dX8_init_50 rfl (ci := 4) rfl inX5 (by decide +kernel) (by decide) w_287 w_96 w_65 (Nat.le_of_ble_eq_true rfl) (Nat.le_of_ble_eq_true rfl) rfl rfl (fun t_b58 => ?_)
  have t_61 := upK_oldE e_K59 t_55
  refine vv_dup 54 dX8_init_53 rfl rfl ?_
  refine vv_sipush 57 (v := 11812) dX8_init_54 rfl (by decide) ?_
  obtain ⟨q62, g_q62, hf⟩ := bind_s hf
  refine vv_callI 60 (st := [.ref b58, .ref a0]) (As := [.int (11812 : Int32)]) (stk2 := [.ref b58, .ref a0]) (cl2 := 194) (sl2 := 40751) dX8_init_57 rfl lk_RX8_22 w_98 rfl ⟨(Nat.le_of_ble_eq_true rfl), (Nat.le_of_ble_eq_true rfl)⟩ rfl rfl ⟨(Nat.le_of_ble_eq_true rfl), (Nat.le_of_ble_eq_true rfl)⟩ rfl (Nat.le_of_ble_eq_true rfl) rfl rfl rfl rfl (c_X5_init_11812 t_b58 g_q62) ?_
  have t_63 := e_X5_init_11812 g_q62 _ _ t_61
  have t_64 := e_X5_init_11812 g_q62 _ _ t_b58
  obtain ⟨m65, e_m65, hf⟩ := bd_s hf
  refine pf_RX8_25 63 dX8_init_60 rfl t_63 e_m65 ?_
  refine vv_aload_n 64 dX8_init_63 rfl rfl ?_
  obtain ⟨b66, e_b66, hf⟩ := bd_s hf
  obtain ⟨K67, e_K67, hf⟩ := bd_s hf
  obtain ⟨m68, e_m68, hf⟩ := bd_s hf
  refine vv_newE 67 (cl2 := 195) (sl2 := 40754) e_b66 e_K67 e_m68 dX8_init_64 rfl (ci := 4) rfl inX5 (by decide +kernel) (by decide) w_287 w_96 w_65 (Nat.le_of_ble_eq_true rfl) (Nat.le_of_ble_eq_true rfl) rfl rfl (fun t_b66 => ?_)
  have t_69 := upK_oldE e_K67 t_63
  refine vv_dup 68 dX8_init_67 rfl rfl ?_
  refine vv_sipush 71 (v := 11812) dX8_init_68 rfl (by decide) ?_
  obtain ⟨q70, g_q70, hf⟩ := bind_s hf
  refine vv_callI 74 (st := [.ref b66, .ref a0]) (As := [.int (11812 : Int32)]) (stk2 := [.ref b66, .ref a0]) (cl2 := 197) (sl2 := 64378) dX8_init_71 rfl lk_RX8_22 w_98 rfl ⟨(Nat.le_of_ble_eq_true rfl), (Nat.le_of_ble_eq_true rfl)⟩ rfl rfl ⟨(Nat.le_of_ble_eq_true rfl), (Nat.le_of_ble_eq_true rfl)⟩ rfl (Nat.le_of_ble_eq_true rfl) rfl rfl rfl rfl (c_X5_init_11812 t_b66 g_q70) ?_
  have t_71 := e_X5_init_11812 g_q70 _ _ t_69
  have t_72 := e_X5_init_11812 g_q70 _ _ t_b66
  obtain ⟨m73, e_m73, hf⟩ := bd_s hf
  refine pf_RX8_29 77 dX8_init_74 rfl t_71 e_m73 ?_
  refine vv_aload_n 78 dX8_init_77 rfl rfl ?_
  obtain ⟨b74, e_b74, hf⟩ := bd_s hf
  obtain ⟨K75, e_K75, hf⟩ := bd_s hf
  obtain ⟨m76, e_m76, hf⟩ := bd_s hf
  refine vv_newE 81 (cl2 := 198) (sl2 := 64387) e_b74 e_K75 e_m76 dX8_init_78 rfl (ci := 3) rfl inX4 (by decide +kernel) (by decide) w_289 w_290 w_68 (Nat.le_of_ble_eq_true rfl) (Nat.le_of_ble_eq_true rfl) rfl rfl (fun t_b74 => ?_)
  have t_77 := upK_oldE e_K75 t_71
  refine vv_dup 82 dX8_init_81 rfl rfl ?_
  refine vv_aload_n 83 dX8_init_82 rfl rfl ?_
  obtain ⟨b78, g_b78, hf⟩ := bind_s hf
  have t_b78 := (ldO_spec g_b78).2
  refine gf_RX8_25 86 dX8_init_83 rfl t_77 (ldO_spec g_b78).1 ?_
  refine vv_aload_n 87 dX8_init_86 rfl rfl ?_
  obtain ⟨b79, g_b79, hf⟩ := bind_s hf
  have t_b79 := (ldO_spec g_b79).2
  refine gf_RX8_29 90 dX8_init_87 rfl t_77 (ldO_spec g_b79).1 ?_
  obtain ⟨q80, g_q80, hf⟩ := bind_s hf
  refine vv_callI 93 (st := [.ref b74, .ref a0]) (As := [.ref b78, .ref b79]) (stk2 := [.ref b74, .ref a0]) (cl2 := 198) (sl2 := 64387) dX8_init_90 rfl lk_RX8_34 w_292 rfl ⟨(Nat.le_of_ble_eq_true rfl), (Nat.le_of_ble_eq_true rfl)⟩ rfl rfl ⟨(Nat.le_of_ble_eq_true rfl), (Nat.le_of_ble_eq_true rfl)⟩ rfl (Nat.le_of_ble_eq_true rfl) rfl rfl rfl rfl (c_X4_init t_b74 t_b78 t_b79 g_q80) ?_
  obtain ⟨m81, e_m81, hf⟩ := bd_s hf
  refine pf_RX8_37 96 dX8_init_93 rfl t_77 e_m81 ?_
  refine vv_aload_n 97 dX8_init_96 rfl rfl ?_
  obtain ⟨b82, e_b82, hf⟩ := bd_s hf
  obtain ⟨K83, e_K83, hf⟩ := bd_s hf
  obtain ⟨m84, e_m84, hf⟩ := bd_s hf
  refine vv_newE 100 (cl2 := 199) (sl2 := 64404) e_b82 e_K83 e_m84 dX8_init_97 rfl (ci := 5) rfl inX6 (by decide +kernel) (by decide) w_325 w_326 w_69 (Nat.le_of_ble_eq_true rfl) (Nat.le_of_ble_eq_true rfl) rfl rfl (fun t_b82 => ?_)
  have t_85 := upK_oldE e_K83 t_77
  refine vv_dup 101 dX8_init_100 rfl rfl ?_
  obtain ⟨q86, g_q86, hf⟩ := bind_s hf
  refine vv_callIN 104 (st := [.ref b82, .ref a0]) (As := []) (stk2 := [.ref b82, .ref a0]) (cl2 := 200) (sl2 := 64418) dX8_init_101 rfl lk_RX8_43 w_328 rfl ⟨(Nat.le_of_ble_eq_true rfl), (Nat.le_of_ble_eq_true rfl)⟩ rfl rfl ⟨(Nat.le_of_ble_eq_true rfl), (Nat.le_of_ble_eq_true rfl)⟩ rfl (Nat.le_of_ble_eq_true rfl) rfl rfl rfl rfl (c_X6_init t_b82 g_q86) ?_
  have t_87 := e_X6_init g_q86 _ _ t_85
  have t_88 := e_X6_init g_q86 _ _ t_b82
  obtain ⟨m89, e_m89, hf⟩ := bd_s hf
  refine pf_RX8_44 107 dX8_init_104 rfl t_87 e_m89 ?_
  refine vv_aload_n 108 dX8_init_107 rfl rfl ?_
  obtain ⟨b90, e_b90, hf⟩ := bd_s hf
  obtain ⟨K91, e_K91, hf⟩ := bd_s hf
  obtain ⟨m92, e_m92, hf⟩ := bd_s hf
  refine vv_newE 111 (cl2 := 201) (sl2 := 64432) e_b90 e_K91 e_m92 dX8_init_108 rfl (ci := 1) rfl inX1 (by decide +kernel) (by decide) w_393 w_126 w_66 (Nat.le_of_ble_eq_true rfl) (Nat.le_of_ble_eq_true rfl) rfl rfl (fun t_b90 => ?_)
  have t_93 := upK_oldE e_K91 t_87
  refine vv_dup 112 dX8_init_111 rfl rfl ?_
  obtain ⟨q94, g_q94, hf⟩ := bind_s hf
  refine vv_callIN 115 (st := [.ref b90, .ref a0]) (As := []) (stk2 := [.ref b90, .ref a0]) (cl2 := 201) (sl2 := 64432) dX8_init_112 rfl lk_RX8_50 w_128 rfl ⟨(Nat.le_of_ble_eq_true rfl), (Nat.le_of_ble_eq_true rfl)⟩ rfl rfl ⟨(Nat.le_of_ble_eq_true rfl), (Nat.le_of_ble_eq_true rfl)⟩ rfl (Nat.le_of_ble_eq_true rfl) rfl rfl rfl rfl (c_X1_init t_b90 g_q94) ?_
  obtain ⟨m95, e_m95, hf⟩ := bd_s hf
  refine pf_RX8_51 118 dX8_init_115 rfl t_93 e_m95 ?_
  refine vv_aload_n 119 dX8_init_118 rfl rfl ?_
  obtain ⟨b96, e_b96, hf⟩ := bd_s hf
  obtain ⟨K97, e_K97, hf⟩ := bd_s hf
  obtain ⟨m98, e_m98, hf⟩ := bd_s hf
  refine vv_newE 122 (cl2 := 202) (sl2 := 64437) e_b96 e_K97 e_m98 dX8_init_119 rfl (ci := 2) rfl inX2 (by decide +kernel) (by decide) w_395 w_396 w_70 (Nat.le_of_ble_eq_true rfl) (Nat.le_of_ble_eq_true rfl) rfl rfl (fun t_b96 => ?_)
  have t_99 := upK_oldE e_K97 t_93
  refine vv_dup 123 dX8_init_122 rfl rfl ?_
  refine vv_aload_n 124 dX8_init_123 rfl rfl ?_
  obtain ⟨b100, g_b100, hf⟩ := bind_s hf
  have t_b100 := (ldO_spec g_b100).2
  refine gf_RX8_44 127 dX8_init_124 rfl t_99 (ldO_spec g_b100).1 ?_
  obtain ⟨q101, g_q101, hf⟩ := bind_s hf
  refine vv_callI 130 (st := [.ref b96, .ref a0]) (As := [.ref b100]) (stk2 := [.ref b96, .ref a0]) (cl2 := 202) (sl2 := 64437) dX8_init_127 rfl lk_RX8_57 w_398 rfl ⟨(Nat.le_of_ble_eq_true rfl), (Nat.le_of_ble_eq_true rfl)⟩ rfl rfl ⟨(Nat.le_of_ble_eq_true rfl), (Nat.le_of_ble_eq_true rfl)⟩ rfl (Nat.le_of_ble_eq_true rfl) rfl rfl rfl rfl (c_X2_init t_b96 t_b100 g_q101) ?_
  obtain ⟨m102, e_m102, hf⟩ := bd_s hf
  refine pf_RX8_60 133 dX8_init_130 rfl t_99 e_m102 ?_
  refine vv_aload_n 134 dX8_init_133 rfl rfl ?_
  obtain ⟨b103, e_b103, hf⟩ := bd_s hf
  obtain ⟨K104, e_K104, hf⟩ := bd_s hf
  obtain ⟨m105, e_m105, hf⟩ := bd_s hf
  refine vv_newE 137 (cl2 := 203) (sl2 := 64446) e_b103 e_K104 e_m105 dX8_init_134 rfl (ci := 0) rfl inX0 (by decide +kernel) (by decide) w_419 w_200 w_67 (Nat.le_of_ble_eq_true rfl) (Nat.le_of_ble_eq_true rfl) rfl rfl (fun t_b103 => ?_)
  have t_106 := upK_oldE e_K104 t_99
  refine vv_dup 138 dX8_init_137 rfl rfl ?_
  obtain ⟨q107, g_q107, hf⟩ := bind_s hf
  refine vv_callIN 141 (st := [.ref b103, .ref a0]) (As := []) (stk2 := [.ref b103, .ref a0]) (cl2 := 204) (sl2 := 64646) dX8_init_138 rfl lk_RX8_66 w_202 rfl ⟨(Nat.le_of_ble_eq_true rfl), (Nat.le_of_ble_eq_true rfl)⟩ rfl rfl ⟨(Nat.le_of_ble_eq_true rfl), (Nat.le_of_ble_eq_true rfl)⟩ rfl (Nat.le_of_ble_eq_true rfl) rfl rfl rfl rfl (c_X0_init t_b103 g_q107) ?_
  have t_108 := e_X0_init g_q107 _ _ t_106
  have t_109 := e_X0_init g_q107 _ _ t_b103
  obtain ⟨m110, e_m110, hf⟩ := bd_s hf
  refine pf_RX8_67 144 dX8_init_141 rfl t_108 e_m110 ?_
  obtain rfl := Option.some.inj hf
  exact vv_vret dX8_init_144 rfl

theorem c_X8_init {w : Wo} {K : Kn} {a0 : Nat} {q : (Kn × Mem)} {m : Mem} (t_a0 : K a0 = some (.inl 7)) (hf : F_X8_init K m a0 = some q) : MM w K q.1 yX8_init cX8_init 2 none rm_X8_init [.ref a0] m none q.2 204 64646 :=
  mm_of (ini := true) (n := 1) (plainFor_of_name (by decide)) rfl (fun h => by first | rfl | cases h) (Nat.le_of_ble_eq_true rfl) rfl (v_X8_init_0 t_a0 hf)

set_option maxRecDepth 100000 in
theorem e_X8_init {K : Kn} {a0 : Nat} {q : (Kn × Mem)} {m : Mem} (hf : F_X8_init K m a0 = some q) : ∀ x c, K x = some c → q.1 x = some c := by
  unfold F_X8_init f_X8_init at hf
  obtain ⟨b1, e_b1, hf⟩ := bd_s hf
  obtain ⟨K2, e_K2, hf⟩ := bd_s hf
  obtain ⟨m3, e_m3, hf⟩ := bd_s hf
  obtain ⟨m5, e_m5, hf⟩ := bd_s hf
  obtain ⟨b6, g_b6, hf⟩ := bind_s hf
  obtain ⟨b7, e_b7, hf⟩ := bd_s hf
  obtain ⟨K8, e_K8, hf⟩ := bd_s hf
  obtain ⟨m9, e_m9, hf⟩ := bd_s hf
  obtain ⟨q12, g_q12, hf⟩ := bind_s hf
  obtain ⟨m16, g_m16, hf⟩ := bind_s hf
  obtain ⟨b17, g_b17, hf⟩ := bind_s hf
  obtain ⟨b18, e_b18, hf⟩ := bd_s hf
  obtain ⟨K19, e_K19, hf⟩ := bd_s hf
  obtain ⟨m20, e_m20, hf⟩ := bd_s hf
  obtain ⟨q23, g_q23, hf⟩ := bind_s hf
  obtain ⟨m27, g_m27, hf⟩ := bind_s hf
  obtain ⟨b28, g_b28, hf⟩ := bind_s hf
  obtain ⟨b29, e_b29, hf⟩ := bd_s hf
  obtain ⟨K30, e_K30, hf⟩ := bd_s hf
  obtain ⟨m31, e_m31, hf⟩ := bd_s hf
  obtain ⟨q34, g_q34, hf⟩ := bind_s hf
  obtain ⟨m38, g_m38, hf⟩ := bind_s hf
  obtain ⟨b39, g_b39, hf⟩ := bind_s hf
  obtain ⟨b40, e_b40, hf⟩ := bd_s hf
  obtain ⟨K41, e_K41, hf⟩ := bd_s hf
  obtain ⟨m42, e_m42, hf⟩ := bd_s hf
  obtain ⟨q45, g_q45, hf⟩ := bind_s hf
  obtain ⟨m49, g_m49, hf⟩ := bind_s hf
  obtain ⟨b50, e_b50, hf⟩ := bd_s hf
  obtain ⟨K51, e_K51, hf⟩ := bd_s hf
  obtain ⟨m52, e_m52, hf⟩ := bd_s hf
  obtain ⟨q54, g_q54, hf⟩ := bind_s hf
  obtain ⟨m57, e_m57, hf⟩ := bd_s hf
  obtain ⟨b58, e_b58, hf⟩ := bd_s hf
  obtain ⟨K59, e_K59, hf⟩ := bd_s hf
  obtain ⟨m60, e_m60, hf⟩ := bd_s hf
  obtain ⟨q62, g_q62, hf⟩ := bind_s hf
  obtain ⟨m65, e_m65, hf⟩ := bd_s hf
  obtain ⟨b66, e_b66, hf⟩ := bd_s hf
  obtain ⟨K67, e_K67, hf⟩ := bd_s hf
  obtain ⟨m68, e_m68, hf⟩ := bd_s hf
  obtain ⟨q70, g_q70, hf⟩ := bind_s hf
  obtain ⟨m73, e_m73, hf⟩ := bd_s hf
  obtain ⟨b74, e_b74, hf⟩ := bd_s hf
  obtain ⟨K75, e_K75, hf⟩ := bd_s hf
  obtain ⟨m76, e_m76, hf⟩ := bd_s hf
  obtain ⟨b78, g_b78, hf⟩ := bind_s hf
  obtain ⟨b79, g_b79, hf⟩ := bind_s hf
  obtain ⟨q80, g_q80, hf⟩ := bind_s hf
  obtain ⟨m81, e_m81, hf⟩ := bd_s hf
  obtain ⟨b82, e_b82, hf⟩ := bd_s hf
  obtain ⟨K83, e_K83, hf⟩ := bd_s hf
  obtain ⟨m84, e_m84, hf⟩ := bd_s hf
  obtain ⟨q86, g_q86, hf⟩ := bind_s hf
  obtain ⟨m89, e_m89, hf⟩ := bd_s hf
  obtain ⟨b90, e_b90, hf⟩ := bd_s hf
  obtain ⟨K91, e_K91, hf⟩ := bd_s hf
  obtain ⟨m92, e_m92, hf⟩ := bd_s hf
  obtain ⟨q94, g_q94, hf⟩ := bind_s hf
  obtain ⟨m95, e_m95, hf⟩ := bd_s hf
  obtain ⟨b96, e_b96, hf⟩ := bd_s hf
  obtain ⟨K97, e_K97, hf⟩ := bd_s hf
  obtain ⟨m98, e_m98, hf⟩ := bd_s hf
  obtain ⟨b100, g_b100, hf⟩ := bind_s hf
  obtain ⟨q101, g_q101, hf⟩ := bind_s hf
  obtain ⟨m102, e_m102, hf⟩ := bd_s hf
  obtain ⟨b103, e_b103, hf⟩ := bd_s hf
  obtain ⟨K104, e_K104, hf⟩ := bd_s hf
  obtain ⟨m105, e_m105, hf⟩ := bd_s hf
  obtain ⟨q107, g_q107, hf⟩ := bind_s hf
  obtain ⟨m110, e_m110, hf⟩ := bd_s hf
  obtain rfl := Option.some.inj hf
  cases hf
  intro x c h
  exact (e_X0_init g_q107 _ _ (upK_oldE e_K104 (upK_oldE e_K97 (upK_oldE e_K91 (e_X6_init g_q86 _ _ (upK_oldE e_K83 (upK_oldE e_K75 (e_X5_init_11812 g_q70 _ _ (upK_oldE e_K67 (e_X5_init_11812 g_q62 _ _ (upK_oldE e_K59 (e_X7_init g_q54 _ _ (upK_oldE e_K51 (e_X7_init g_q45 _ _ (upK_oldE e_K41 (e_X7_init g_q34 _ _ (upK_oldE e_K30 (e_X7_init g_q23 _ _ (upK_oldE e_K19 (e_X7_init g_q12 _ _ (upK_oldE e_K8 (upK_oldE e_K2 h))))))))))))))))))))))

set_option maxHeartbeats 4000000 in
theorem v_X8_isSlot_13 {w : Wo} {K : Kn} {x0 : Int32} {q : Int32} {m : Mem} (hf : f_X8_isSlot_13 x0 = some q) : VV w RX8 cX8_isSlot 1 (some .boolean) rm_X8_isSlot false (QM w K (some (.int q)) m 0 0) K 13 [none] [] 0 0 m := by
  unfold f_X8_isSlot_13 at hf
  refine vv_iconst 14 (v := 0) dX8_isSlot_13 rfl (by decide) ?_
  obtain rfl := Option.some.inj hf
  exact vv_zret dX8_isSlot_14 rfl (Or.inl rfl)

set_option maxHeartbeats 4000000 in
theorem v_X8_isSlot_0 {w : Wo} {K : Kn} {x0 : Int32} {q : Int32} {m : Mem} (hf : f_X8_isSlot x0 = some q) : VV w RX8 cX8_isSlot 1 (some .boolean) rm_X8_isSlot false (QM w K (some (.int q)) m 0 0) K 0 [some (.int x0)] [] 0 0 m := by
  unfold f_X8_isSlot at hf
  refine vv_iload_n 1 dX8_isSlot_0 rfl rfl ?_
  refine vv_if_lt 13 4 dX8_isSlot_1 rfl (by decide) (fun c1 => ?_) (fun c1 => ?_)
  · rw [if_pos c1] at hf
    exact VV.lle (v_X8_isSlot_13 hf) (lle_n lle_nil)
  · rw [if_neg c1] at hf
    refine vv_iload_n 5 dX8_isSlot_4 rfl rfl ?_
    refine vv_iconst 6 (v := 4) dX8_isSlot_5 rfl (by decide) ?_
    refine vv_icmp_ge 13 9 dX8_isSlot_6 rfl (by decide) (fun c2 => ?_) (fun c2 => ?_)
    · rw [if_pos c2] at hf
      exact VV.lle (v_X8_isSlot_13 hf) (lle_n lle_nil)
    · rw [if_neg c2] at hf
      refine vv_iconst 10 (v := 1) dX8_isSlot_9 rfl (by decide) ?_
      refine vv_goto 14 dX8_isSlot_10 (by decide) ?_
      obtain rfl := Option.some.inj hf
      exact vv_zret dX8_isSlot_14 rfl (Or.inr rfl)

theorem c_X8_isSlot {w : Wo} {K : Kn} {x0 : Int32} {q : Int32} {m : Mem} (hf : F_X8_isSlot x0 = some q) : MM w K K yX8_isSlot cX8_isSlot 1 (some .boolean) rm_X8_isSlot [.int x0] m (some (.int q)) m 0 0 :=
  mm_of (ini := false) (n := 0) (plainFor_of_name (by decide)) rfl (fun h => by first | rfl | cases h) (Nat.le_of_ble_eq_true rfl) rfl (v_X8_isSlot_0 hf)

set_option maxHeartbeats 4000000 in
theorem v_X8_isRoom_17 {w : Wo} {K : Kn} {x0 : Int32} {q : Int32} {m : Mem} (hf : f_X8_isRoom_17 x0 = some q) : VV w RX8 cX8_isRoom 1 (some .boolean) rm_X8_isRoom false (QM w K (some (.int q)) m 0 0) K 17 [none] [] 0 0 m := by
  unfold f_X8_isRoom_17 at hf
  refine vv_iconst 18 (v := 0) dX8_isRoom_17 rfl (by decide) ?_
  obtain rfl := Option.some.inj hf
  exact vv_zret dX8_isRoom_18 rfl (Or.inl rfl)

set_option maxHeartbeats 4000000 in
theorem v_X8_isRoom_0 {w : Wo} {K : Kn} {x0 : Int32} {q : Int32} {m : Mem} (hf : f_X8_isRoom x0 = some q) : VV w RX8 cX8_isRoom 1 (some .boolean) rm_X8_isRoom false (QM w K (some (.int q)) m 0 0) K 0 [some (.int x0)] [] 0 0 m := by
  unfold f_X8_isRoom at hf
  refine vv_iload_n 1 dX8_isRoom_0 rfl rfl ?_
  refine vv_bipush 3 (v := 24) dX8_isRoom_1 rfl (by decide) ?_
  refine vv_icmp_lt 17 6 dX8_isRoom_3 rfl (by decide) (fun c1 => ?_) (fun c1 => ?_)
  · rw [if_pos c1] at hf
    exact VV.lle (v_X8_isRoom_17 hf) (lle_n lle_nil)
  · rw [if_neg c1] at hf
    refine vv_iload_n 7 dX8_isRoom_6 rfl rfl ?_
    refine vv_sipush 10 (v := 200) dX8_isRoom_7 rfl (by decide) ?_
    refine vv_icmp_gt 17 13 dX8_isRoom_10 rfl (by decide) (fun c2 => ?_) (fun c2 => ?_)
    · rw [if_pos c2] at hf
      exact VV.lle (v_X8_isRoom_17 hf) (lle_n lle_nil)
    · rw [if_neg c2] at hf
      refine vv_iconst 14 (v := 1) dX8_isRoom_13 rfl (by decide) ?_
      refine vv_goto 18 dX8_isRoom_14 (by decide) ?_
      obtain rfl := Option.some.inj hf
      exact vv_zret dX8_isRoom_18 rfl (Or.inr rfl)

theorem c_X8_isRoom {w : Wo} {K : Kn} {x0 : Int32} {q : Int32} {m : Mem} (hf : F_X8_isRoom x0 = some q) : MM w K K yX8_isRoom cX8_isRoom 1 (some .boolean) rm_X8_isRoom [.int x0] m (some (.int q)) m 0 0 :=
  mm_of (ini := false) (n := 0) (plainFor_of_name (by decide)) rfl (fun h => by first | rfl | cases h) (Nat.le_of_ble_eq_true rfl) rfl (v_X8_isRoom_0 hf)

set_option maxHeartbeats 4000000 in
theorem v_X7_start_0 {w : Wo} {K : Kn} {a0 : Nat} {x1 : Int32} {q : Mem} (t_a0 : K a0 = some (.inl 6)) {m : Mem} (hf : f_X7_start K a0 x1 m = some q) : VV w RX7 cX7_start 2 none rm_X7_start false (QM w K none q 0 0) K 0 [some (.ref a0), some (.int x1)] [] 0 0 m := by
  unfold f_X7_start at hf
  refine vv_aload_n 1 dX7_start_0 rfl rfl ?_
  refine vv_iconst 2 (v := 1) dX7_start_1 rfl (by decide) ?_
  obtain ⟨m1, e_m1, hf⟩ := bd_s hf
  refine pf_RX7_38 5 dX7_start_2 rfl t_a0 (by decide) e_m1 ?_
  refine vv_aload_n 6 dX7_start_5 rfl rfl ?_
  refine vv_iload_n 7 dX7_start_6 rfl rfl ?_
  obtain ⟨m2, e_m2, hf⟩ := bd_s hf
  refine pf_RX7_42 10 dX7_start_7 rfl t_a0 e_m2 ?_
  refine vv_aload_n 11 dX7_start_10 rfl rfl ?_
  refine vv_iconst 12 (v := 0) dX7_start_11 rfl (by decide) ?_
  obtain ⟨m3, e_m3, hf⟩ := bd_s hf
  refine pf_RX7_45 15 dX7_start_12 rfl t_a0 e_m3 ?_
  refine vv_aload_n 16 dX7_start_15 rfl rfl ?_
  refine vv_iconst 17 (v := (-1)) dX7_start_16 rfl (by decide) ?_
  obtain ⟨m4, e_m4, hf⟩ := bd_s hf
  refine pf_RX7_33 20 dX7_start_17 rfl t_a0 e_m4 ?_
  refine vv_aload_n 21 dX7_start_20 rfl rfl ?_
  obtain ⟨b5, g_b5, hf⟩ := bind_s hf
  have t_b5 := (ldO_spec g_b5).2
  refine gf_RX7_22 24 dX7_start_21 rfl t_a0 (ldO_spec g_b5).1 ?_
  refine vv_iconst 25 (v := 0) dX7_start_24 rfl (by decide) ?_
  obtain ⟨m6, e_m6, hf⟩ := bd_s hf
  refine pf_RX7_48 28 dX7_start_25 rfl t_b5 e_m6 ?_
  obtain rfl := Option.some.inj hf
  exact vv_vret dX7_start_28 rfl

theorem c_X7_start {w : Wo} {K : Kn} {a0 : Nat} {x1 : Int32} {q : Mem} {m : Mem} (t_a0 : K a0 = some (.inl 6)) (hf : F_X7_start K m a0 x1 = some q) : MM w K K yX7_start cX7_start 2 none rm_X7_start [.ref a0, .int x1] m none q 0 0 :=
  mm_of (ini := false) (n := 0) (plainFor_of_name (by decide)) rfl (fun h => by first | rfl | cases h) (Nat.le_of_ble_eq_true rfl) rfl (v_X7_start_0 t_a0 hf)

set_option maxHeartbeats 4000000 in
theorem v_X8_begins_0 {w : Wo} {K : Kn} {a0 : Nat} {x1 : Int32} {x2 : Int32} {q : (Int32 × Mem)} (t_a0 : K a0 = some (.inl 7)) {m : Mem} (hf : f_X8_begins K a0 x1 x2 m = some q) : VV w RX8 cX8_begins 3 (some .int) rm_X8_begins false (QM w K (some (.int q.1)) q.2 0 0) K 0 [some (.ref a0), some (.int x1), some (.int x2)] [] 0 0 m := by
  unfold f_X8_begins at hf
  refine vv_iload_n 1 dX8_begins_0 rfl rfl ?_
  obtain ⟨q1, g_q1, hf⟩ := bind_s hf
  refine vv_callS 4 (st := []) (As := [.int x1]) (stk2 := [.int q1]) (cl2 := 0) (sl2 := 0) dX8_begins_1 rfl lk_RX8_71 w_454 ⟨(Nat.le_of_ble_eq_true rfl), (Nat.le_of_ble_eq_true rfl)⟩ rfl rfl ⟨(Nat.le_of_ble_eq_true rfl), (Nat.le_of_ble_eq_true rfl)⟩ rfl (Nat.le_of_ble_eq_true rfl) rfl rfl rfl rfl (c_X8_isSlot g_q1) ?_
  refine vv_if_eq 14 7 dX8_begins_4 rfl (by decide) (fun c2 => ?_) (fun c2 => ?_)
  · rw [if_pos c2] at hf
    refine vv_bipush 16 (v := (-2)) dX8_begins_14 rfl (by decide) ?_
    obtain rfl := Option.some.inj hf
    exact vv_iret dX8_begins_16 rfl
  · rw [if_neg c2] at hf
    refine vv_iload_n 8 dX8_begins_7 rfl rfl ?_
    obtain ⟨q3, g_q3, hf⟩ := bind_s hf
    refine vv_callS 11 (st := []) (As := [.int x2]) (stk2 := [.int q3]) (cl2 := 0) (sl2 := 0) dX8_begins_8 rfl lk_RX8_75 w_457 ⟨(Nat.le_of_ble_eq_true rfl), (Nat.le_of_ble_eq_true rfl)⟩ rfl rfl ⟨(Nat.le_of_ble_eq_true rfl), (Nat.le_of_ble_eq_true rfl)⟩ rfl (Nat.le_of_ble_eq_true rfl) rfl rfl rfl rfl (c_X8_isRoom g_q3) ?_
    refine vv_if_ne 17 14 dX8_begins_11 rfl (by decide) (fun c4 => ?_) (fun c4 => ?_)
    · rw [if_pos c4] at hf
      refine vv_bipush 16 (v := (-2)) dX8_begins_14 rfl (by decide) ?_
      obtain rfl := Option.some.inj hf
      exact vv_iret dX8_begins_16 rfl
    · rw [if_neg c4] at hf
      refine vv_aload_n 18 dX8_begins_17 rfl rfl ?_
      obtain ⟨b5, g_b5, hf⟩ := bind_s hf
      have t_b5 := (ldA_spec g_b5).2
      refine gf_RX8_11 21 dX8_begins_18 rfl t_a0 (ldA_spec g_b5).1 ?_
      refine vv_iload_n 22 dX8_begins_21 rfl rfl ?_
      obtain ⟨b6, g_b6, hf⟩ := bind_s hf
      have t_b6 := (alO_spec g_b6).2
      refine vv_aald3 23 dX8_begins_22 rfl t_b5 g_b6 ?_
      refine vv_iload_n 24 dX8_begins_23 rfl rfl ?_
      obtain ⟨q7, g_q7, hf⟩ := bind_s hf
      refine vv_callV 27 (st := []) (As := [.int x2]) (stk2 := []) (cl2 := 0) (sl2 := 0) dX8_begins_24 rfl lk_RX8_78 w_460 w_461 rfl t_b6 ⟨(Nat.le_of_ble_eq_true rfl), (Nat.le_of_ble_eq_true rfl)⟩ rfl rfl ⟨(Nat.le_of_ble_eq_true rfl), (Nat.le_of_ble_eq_true rfl)⟩ rfl (Nat.le_of_ble_eq_true rfl) rfl rfl rfl rfl (c_X7_start t_b6 g_q7) ?_
      refine vv_iconst 28 (v := 0) dX8_begins_27 rfl (by decide) ?_
      obtain rfl := Option.some.inj hf
      exact vv_iret dX8_begins_28 rfl

theorem c_X8_begins {w : Wo} {K : Kn} {a0 : Nat} {x1 : Int32} {x2 : Int32} {q : (Int32 × Mem)} {m : Mem} (t_a0 : K a0 = some (.inl 7)) (hf : F_X8_begins K m a0 x1 x2 = some q) : MM w K K yX8_begins cX8_begins 3 (some .int) rm_X8_begins [.ref a0, .int x1, .int x2] m (some (.int q.1)) q.2 0 0 :=
  mm_of (ini := false) (n := 0) (plainFor_of_name (by decide)) rfl (fun h => by first | rfl | cases h) (Nat.le_of_ble_eq_true rfl) rfl (v_X8_begins_0 t_a0 hf)

set_option maxHeartbeats 4000000 in
theorem v_X8_isNone_19 {w : Wo} {K : Kn} {a0 : Nat} {x1 : Int32} {q : Int32} {m : Mem} (t_a0 : K a0 = some (.inl 7)) (hf : f_X8_isNone_19 K m a0 x1 = some q) : VV w RX8 cX8_isNone 2 (some .boolean) rm_X8_isNone false (QM w K (some (.int q)) m 0 0) K 19 [none, none] [] 0 0 m := by
  unfold f_X8_isNone_19 at hf
  refine vv_iconst 20 (v := 1) dX8_isNone_19 rfl (by decide) ?_
  refine vv_goto 24 dX8_isNone_20 (by decide) ?_
  obtain rfl := Option.some.inj hf
  exact vv_zret dX8_isNone_24 rfl (Or.inr rfl)

set_option maxHeartbeats 4000000 in
theorem v_X8_isNone_0 {w : Wo} {K : Kn} {a0 : Nat} {x1 : Int32} {q : Int32} {m : Mem} (t_a0 : K a0 = some (.inl 7)) (hf : f_X8_isNone K m a0 x1 = some q) : VV w RX8 cX8_isNone 2 (some .boolean) rm_X8_isNone false (QM w K (some (.int q)) m 0 0) K 0 [some (.ref a0), some (.int x1)] [] 0 0 m := by
  unfold f_X8_isNone at hf
  refine vv_iload_n 1 dX8_isNone_0 rfl rfl ?_
  obtain ⟨q1, g_q1, hf⟩ := bind_s hf
  refine vv_callS 4 (st := []) (As := [.int x1]) (stk2 := [.int q1]) (cl2 := 0) (sl2 := 0) dX8_isNone_1 rfl lk_RX8_71 w_454 ⟨(Nat.le_of_ble_eq_true rfl), (Nat.le_of_ble_eq_true rfl)⟩ rfl rfl ⟨(Nat.le_of_ble_eq_true rfl), (Nat.le_of_ble_eq_true rfl)⟩ rfl (Nat.le_of_ble_eq_true rfl) rfl rfl rfl rfl (c_X8_isSlot g_q1) ?_
  refine vv_if_eq 19 7 dX8_isNone_4 rfl (by decide) (fun c2 => ?_) (fun c2 => ?_)
  · rw [if_pos c2] at hf
    exact VV.lle (v_X8_isNone_19 t_a0 hf) (lle_n (lle_n lle_nil))
  · rw [if_neg c2] at hf
    refine vv_aload_n 8 dX8_isNone_7 rfl rfl ?_
    obtain ⟨b3, g_b3, hf⟩ := bind_s hf
    have t_b3 := (ldA_spec g_b3).2
    refine gf_RX8_11 11 dX8_isNone_8 rfl t_a0 (ldA_spec g_b3).1 ?_
    refine vv_iload_n 12 dX8_isNone_11 rfl rfl ?_
    obtain ⟨b4, g_b4, hf⟩ := bind_s hf
    have t_b4 := (alO_spec g_b4).2
    refine vv_aald3 13 dX8_isNone_12 rfl t_b3 g_b4 ?_
    refine gf_RX8_351 16 dX8_isNone_13 rfl t_b4 ?_
    refine vv_if_ne 23 19 dX8_isNone_16 rfl (by decide) (fun c5 => ?_) (fun c5 => ?_)
    · rw [if_pos c5] at hf
      exact VV.lle (v_X8_isNone_19 t_a0 hf) (lle_n (lle_n lle_nil))
    · rw [if_neg c5] at hf
      refine vv_iconst 24 (v := 0) dX8_isNone_23 rfl (by decide) ?_
      obtain rfl := Option.some.inj hf
      exact vv_zret dX8_isNone_24 rfl (Or.inl rfl)

theorem c_X8_isNone {w : Wo} {K : Kn} {a0 : Nat} {x1 : Int32} {q : Int32} {m : Mem} (t_a0 : K a0 = some (.inl 7)) (hf : F_X8_isNone K m a0 x1 = some q) : MM w K K yX8_isNone cX8_isNone 2 (some .boolean) rm_X8_isNone [.ref a0, .int x1] m (some (.int q)) m 0 0 :=
  mm_of (ini := false) (n := 0) (plainFor_of_name (by decide)) rfl (fun h => by first | rfl | cases h) (Nat.le_of_ble_eq_true rfl) rfl (v_X8_isNone_0 t_a0 hf)

set_option maxHeartbeats 4000000 in
theorem v_X8_isStamp_15 {w : Wo} {K : Kn} {x0 : Int32} {q : Int32} {m : Mem} (hf : f_X8_isStamp_15 x0 = some q) : VV w RX8 cX8_isStamp 1 (some .boolean) rm_X8_isStamp false (QM w K (some (.int q)) m 0 0) K 15 [none] [] 0 0 m := by
  unfold f_X8_isStamp_15 at hf
  refine vv_iconst 16 (v := 0) dX8_isStamp_15 rfl (by decide) ?_
  obtain rfl := Option.some.inj hf
  exact vv_zret dX8_isStamp_16 rfl (Or.inl rfl)

set_option maxHeartbeats 4000000 in
theorem v_X8_isStamp_0 {w : Wo} {K : Kn} {x0 : Int32} {q : Int32} {m : Mem} (hf : f_X8_isStamp x0 = some q) : VV w RX8 cX8_isStamp 1 (some .boolean) rm_X8_isStamp false (QM w K (some (.int q)) m 0 0) K 0 [some (.int x0)] [] 0 0 m := by
  unfold f_X8_isStamp at hf
  refine vv_iload_n 1 dX8_isStamp_0 rfl rfl ?_
  refine vv_if_lt 15 4 dX8_isStamp_1 rfl (by decide) (fun c1 => ?_) (fun c1 => ?_)
  · rw [if_pos c1] at hf
    exact VV.lle (v_X8_isStamp_15 hf) (lle_n lle_nil)
  · rw [if_neg c1] at hf
    refine vv_iload_n 5 dX8_isStamp_4 rfl rfl ?_
    refine vv_ldcw 8 (v := 2000000000) dX8_isStamp_5 rfl w_474 ?_
    refine vv_icmp_gt 15 11 dX8_isStamp_8 rfl (by decide) (fun c2 => ?_) (fun c2 => ?_)
    · rw [if_pos c2] at hf
      exact VV.lle (v_X8_isStamp_15 hf) (lle_n lle_nil)
    · rw [if_neg c2] at hf
      refine vv_iconst 12 (v := 1) dX8_isStamp_11 rfl (by decide) ?_
      refine vv_goto 16 dX8_isStamp_12 (by decide) ?_
      obtain rfl := Option.some.inj hf
      exact vv_zret dX8_isStamp_16 rfl (Or.inr rfl)

theorem c_X8_isStamp {w : Wo} {K : Kn} {x0 : Int32} {q : Int32} {m : Mem} (hf : F_X8_isStamp x0 = some q) : MM w K K yX8_isStamp cX8_isStamp 1 (some .boolean) rm_X8_isStamp [.int x0] m (some (.int q)) m 0 0 :=
  mm_of (ini := false) (n := 0) (plainFor_of_name (by decide)) rfl (fun h => by first | rfl | cases h) (Nat.le_of_ble_eq_true rfl) rfl (v_X8_isStamp_0 hf)

set_option maxHeartbeats 4000000 in
theorem v_X7_openBlock_38 {w : Wo} {K : Kn} {a0 : Nat} {q : (Option Nat)} {m : Mem} (t_a0 : K a0 = some (.inl 6)) (hf : f_X7_openBlock_38 K m a0 = some q) : VV w RX7 cX7_openBlock 1 (some (.object "SeriesPress$Block")) rm_X7_openBlock false (QM w K (some (va_rf q)) m 0 0) K 38 [none] [] 0 0 m := by
  unfold f_X7_openBlock_38 at hf
  refine vv_null 39 dX7_openBlock_38 rfl ?_
  obtain rfl := Option.some.inj hf
  exact vv_aret dX7_openBlock_39 rfl (Or.inl ⟨_, rfl⟩) (Or.inl rfl)

set_option maxHeartbeats 4000000 in
theorem v_X7_openBlock_0 {w : Wo} {K : Kn} {a0 : Nat} {q : (Option Nat)} {m : Mem} (t_a0 : K a0 = some (.inl 6)) (hf : f_X7_openBlock K m a0 = some q) : VV w RX7 cX7_openBlock 1 (some (.object "SeriesPress$Block")) rm_X7_openBlock false (QM w K (some (va_rf q)) m 0 0) K 0 [some (.ref a0)] [] 0 0 m := by
  unfold f_X7_openBlock at hf
  refine vv_aload_n 1 dX7_openBlock_0 rfl rfl ?_
  refine gf_RX7_45 4 dX7_openBlock_1 rfl t_a0 ?_
  refine vv_if_le 38 7 dX7_openBlock_4 rfl (by decide) (fun c1 => ?_) (fun c1 => ?_)
  · rw [if_pos c1] at hf
    exact VV.lle (v_X7_openBlock_38 t_a0 hf) (lle_n lle_nil)
  · rw [if_neg c1] at hf
    refine vv_aload_n 8 dX7_openBlock_7 rfl rfl ?_
    obtain ⟨b2, g_b2, hf⟩ := bind_s hf
    have t_b2 := (ldA_spec g_b2).2
    refine gf_RX7_11 11 dX7_openBlock_8 rfl t_a0 (ldA_spec g_b2).1 ?_
    refine vv_aload_n 12 dX7_openBlock_11 rfl rfl ?_
    refine gf_RX7_45 15 dX7_openBlock_12 rfl t_a0 ?_
    refine vv_iconst 16 (v := 1) dX7_openBlock_15 rfl (by decide) ?_
    refine vv_isub 17 dX7_openBlock_16 rfl ?_
    obtain ⟨b3, g_b3, hf⟩ := bind_s hf
    have t_b3 := (alO_spec g_b3).2
    refine vv_aald4 18 dX7_openBlock_17 rfl t_b2 g_b3 ?_
    refine gf_RX7_59 21 dX7_openBlock_18 rfl t_b3 ?_
    refine vv_if_ne 38 24 dX7_openBlock_21 rfl (by decide) (fun c4 => ?_) (fun c4 => ?_)
    · rw [if_pos c4] at hf
      refine vv_aload_n 25 dX7_openBlock_24 rfl rfl ?_
      obtain ⟨b5, g_b5, hf⟩ := bind_s hf
      have t_b5 := (ldA_spec g_b5).2
      refine gf_RX7_11 28 dX7_openBlock_25 rfl t_a0 (ldA_spec g_b5).1 ?_
      refine vv_aload_n 29 dX7_openBlock_28 rfl rfl ?_
      refine gf_RX7_45 32 dX7_openBlock_29 rfl t_a0 ?_
      refine vv_iconst 33 (v := 1) dX7_openBlock_32 rfl (by decide) ?_
      refine vv_isub 34 dX7_openBlock_33 rfl ?_
      obtain ⟨b6, g_b6, hf⟩ := bind_s hf
      have t_b6 := (alO_spec g_b6).2
      refine vv_aald4 35 dX7_openBlock_34 rfl t_b5 g_b6 ?_
      refine vv_goto 39 dX7_openBlock_35 (by decide) ?_
      obtain rfl := Option.some.inj hf
      exact vv_aret dX7_openBlock_39 rfl (Or.inl ⟨_, rfl⟩) (Or.inr ⟨_, rfl⟩)
    · rw [if_neg c4] at hf
      exact VV.lle (v_X7_openBlock_38 t_a0 hf) (lle_n lle_nil)

theorem c_X7_openBlock {w : Wo} {K : Kn} {a0 : Nat} {q : (Option Nat)} {m : Mem} (t_a0 : K a0 = some (.inl 6)) (hf : F_X7_openBlock K m a0 = some q) : MM w K K yX7_openBlock cX7_openBlock 1 (some (.object "SeriesPress$Block")) rm_X7_openBlock [.ref a0] m (some (va_rf q)) m 0 0 :=
  mm_of (ini := false) (n := 0) (plainFor_of_name (by decide)) rfl (fun h => by first | rfl | cases h) (Nat.le_of_ble_eq_true rfl) rfl (v_X7_openBlock_0 t_a0 hf)

set_option maxHeartbeats 4000000 in
theorem v_X1_kindOf_54 {w : Wo} {K : Kn} {x0 : Int32} {q : Int32} {m : Mem} (hf : f_X1_kindOf_54 x0 = some q) : VV w RX1 cX1_kindOf 1 (some .int) rm_X1_kindOf false (QM w K (some (.int q)) m 0 0) K 54 [none] [] 0 0 m := by
  unfold f_X1_kindOf_54 at hf
  refine vv_iconst 55 (v := 4) dX1_kindOf_54 rfl (by decide) ?_
  obtain rfl := Option.some.inj hf
  exact vv_iret dX1_kindOf_55 rfl

set_option maxHeartbeats 4000000 in
theorem v_X1_kindOf_36 {w : Wo} {K : Kn} {x0 : Int32} {q : Int32} {m : Mem} (hf : f_X1_kindOf_36 x0 = some q) : VV w RX1 cX1_kindOf 1 (some .int) rm_X1_kindOf false (QM w K (some (.int q)) m 0 0) K 36 [some (.int x0)] [] 0 0 m := by
  unfold f_X1_kindOf_36 at hf
  refine vv_iload_n 37 dX1_kindOf_36 rfl rfl ?_
  refine vv_sipush 40 (v := (-2047)) dX1_kindOf_37 rfl (by decide) ?_
  refine vv_icmp_lt 54 43 dX1_kindOf_40 rfl (by decide) (fun c1 => ?_) (fun c1 => ?_)
  · rw [if_pos c1] at hf
    exact VV.lle (v_X1_kindOf_54 hf) (lle_n lle_nil)
  · rw [if_neg c1] at hf
    refine vv_iload_n 44 dX1_kindOf_43 rfl rfl ?_
    refine vv_sipush 47 (v := 2048) dX1_kindOf_44 rfl (by decide) ?_
    refine vv_icmp_gt 54 50 dX1_kindOf_47 rfl (by decide) (fun c2 => ?_) (fun c2 => ?_)
    · rw [if_pos c2] at hf
      exact VV.lle (v_X1_kindOf_54 hf) (lle_n lle_nil)
    · rw [if_neg c2] at hf
      refine vv_iconst 51 (v := 3) dX1_kindOf_50 rfl (by decide) ?_
      refine vv_goto 55 dX1_kindOf_51 (by decide) ?_
      obtain rfl := Option.some.inj hf
      exact vv_iret dX1_kindOf_55 rfl

set_option maxHeartbeats 4000000 in
theorem v_X1_kindOf_20 {w : Wo} {K : Kn} {x0 : Int32} {q : Int32} {m : Mem} (hf : f_X1_kindOf_20 x0 = some q) : VV w RX1 cX1_kindOf 1 (some .int) rm_X1_kindOf false (QM w K (some (.int q)) m 0 0) K 20 [some (.int x0)] [] 0 0 m := by
  unfold f_X1_kindOf_20 at hf
  refine vv_iload_n 21 dX1_kindOf_20 rfl rfl ?_
  refine vv_sipush 24 (v := (-255)) dX1_kindOf_21 rfl (by decide) ?_
  refine vv_icmp_lt 36 27 dX1_kindOf_24 rfl (by decide) (fun c1 => ?_) (fun c1 => ?_)
  · rw [if_pos c1] at hf
    exact v_X1_kindOf_36 hf
  · rw [if_neg c1] at hf
    refine vv_iload_n 28 dX1_kindOf_27 rfl rfl ?_
    refine vv_sipush 31 (v := 256) dX1_kindOf_28 rfl (by decide) ?_
    refine vv_icmp_gt 36 34 dX1_kindOf_31 rfl (by decide) (fun c2 => ?_) (fun c2 => ?_)
    · rw [if_pos c2] at hf
      exact v_X1_kindOf_36 hf
    · rw [if_neg c2] at hf
      refine vv_iconst 35 (v := 2) dX1_kindOf_34 rfl (by decide) ?_
      obtain rfl := Option.some.inj hf
      exact vv_iret dX1_kindOf_35 rfl

set_option maxHeartbeats 4000000 in
theorem v_X1_kindOf_0 {w : Wo} {K : Kn} {x0 : Int32} {q : Int32} {m : Mem} (hf : f_X1_kindOf x0 = some q) : VV w RX1 cX1_kindOf 1 (some .int) rm_X1_kindOf false (QM w K (some (.int q)) m 0 0) K 0 [some (.int x0)] [] 0 0 m := by
  unfold f_X1_kindOf at hf
  refine vv_iload_n 1 dX1_kindOf_0 rfl rfl ?_
  refine vv_if_ne 6 4 dX1_kindOf_1 rfl (by decide) (fun c1 => ?_) (fun c1 => ?_)
  · rw [if_pos c1] at hf
    refine vv_iconst 5 (v := 0) dX1_kindOf_4 rfl (by decide) ?_
    obtain rfl := Option.some.inj hf
    exact vv_iret dX1_kindOf_5 rfl
  · rw [if_neg c1] at hf
    refine vv_iload_n 7 dX1_kindOf_6 rfl rfl ?_
    refine vv_bipush 9 (v := (-63)) dX1_kindOf_7 rfl (by decide) ?_
    refine vv_icmp_lt 20 12 dX1_kindOf_9 rfl (by decide) (fun c2 => ?_) (fun c2 => ?_)
    · rw [if_pos c2] at hf
      exact v_X1_kindOf_20 hf
    · rw [if_neg c2] at hf
      refine vv_iload_n 13 dX1_kindOf_12 rfl rfl ?_
      refine vv_bipush 15 (v := 64) dX1_kindOf_13 rfl (by decide) ?_
      refine vv_icmp_gt 20 18 dX1_kindOf_15 rfl (by decide) (fun c3 => ?_) (fun c3 => ?_)
      · rw [if_pos c3] at hf
        exact v_X1_kindOf_20 hf
      · rw [if_neg c3] at hf
        refine vv_iconst 19 (v := 1) dX1_kindOf_18 rfl (by decide) ?_
        obtain rfl := Option.some.inj hf
        exact vv_iret dX1_kindOf_19 rfl

theorem c_X1_kindOf {w : Wo} {K : Kn} {x0 : Int32} {q : Int32} {m : Mem} (hf : F_X1_kindOf x0 = some q) : MM w K K yX1_kindOf cX1_kindOf 1 (some .int) rm_X1_kindOf [.int x0] m (some (.int q)) m 0 0 :=
  mm_of (ini := false) (n := 0) (plainFor_of_name (by decide)) rfl (fun h => by first | rfl | cases h) (Nat.le_of_ble_eq_true rfl) rfl (v_X1_kindOf_0 hf)

set_option maxHeartbeats 4000000 in
theorem v_J6_numberOfLeadingZeros_0f7a4_73 {w : Wo} {K : Kn} {q : Int32} {m : Mem} {x0 : Int32} {x1 : Int32} (hf : f_J6_numberOfLeadingZeros_0f7a4_73 x0 x1 = some q) : VV w RJ6 cJ6_numberOfLeadingZeros_0f7a4 2 (some .int) rm_J6_numberOfLeadingZeros_0f7a4 false (QM w K (some (.int q)) m 0 0) K 73 [some (.int x0), some (.int x1)] [] 0 0 m := by
  unfold f_J6_numberOfLeadingZeros_0f7a4_73 at hf
  refine vv_iload_n 74 dJ6_numberOfLeadingZeros_0f7a4_73 rfl rfl ?_
  refine vv_iload_n 75 dJ6_numberOfLeadingZeros_0f7a4_74 rfl rfl ?_
  refine vv_iconst 76 (v := 1) dJ6_numberOfLeadingZeros_0f7a4_75 rfl (by decide) ?_
  refine vv_iushr 77 dJ6_numberOfLeadingZeros_0f7a4_76 rfl ?_
  refine vv_isub 78 dJ6_numberOfLeadingZeros_0f7a4_77 rfl ?_
  obtain rfl := Option.some.inj hf
  exact vv_iret dJ6_numberOfLeadingZeros_0f7a4_78 rfl

set_option maxHeartbeats 4000000 in
theorem v_J6_numberOfLeadingZeros_0f7a4_61 {w : Wo} {K : Kn} {q : Int32} {m : Mem} {x0 : Int32} {x1 : Int32} (hf : f_J6_numberOfLeadingZeros_0f7a4_61 x0 x1 = some q) : VV w RJ6 cJ6_numberOfLeadingZeros_0f7a4 2 (some .int) rm_J6_numberOfLeadingZeros_0f7a4 false (QM w K (some (.int q)) m 0 0) K 61 [some (.int x0), some (.int x1)] [] 0 0 m := by
  unfold f_J6_numberOfLeadingZeros_0f7a4_61 at hf
  refine vv_iload_n 62 dJ6_numberOfLeadingZeros_0f7a4_61 rfl rfl ?_
  refine vv_iconst 63 (v := 4) dJ6_numberOfLeadingZeros_0f7a4_62 rfl (by decide) ?_
  refine vv_icmp_lt 73 66 dJ6_numberOfLeadingZeros_0f7a4_63 rfl (by decide) (fun c1 => ?_) (fun c1 => ?_)
  · rw [if_pos c1] at hf
    exact v_J6_numberOfLeadingZeros_0f7a4_73 hf
  · rw [if_neg c1] at hf
    obtain ⟨z2, e_z2, hf⟩ := bd_s hf
    refine vv_iincE (q := 69) (v := z2) (c := (-2)) (L' := [some (.int x0), some (.int z2)]) e_z2 dJ6_numberOfLeadingZeros_0f7a4_66 rfl rfl (by decide) (Nat.le_of_ble_eq_true rfl) rfl ?_
    refine vv_iload_n 70 dJ6_numberOfLeadingZeros_0f7a4_69 rfl rfl ?_
    refine vv_iconst 71 (v := 2) dJ6_numberOfLeadingZeros_0f7a4_70 rfl (by decide) ?_
    refine vv_iushr 72 dJ6_numberOfLeadingZeros_0f7a4_71 rfl ?_
    obtain ⟨z3, e_z3, hf⟩ := bd_s hf
    refine vv_istore_nE (q := 73) (v := z3) (L' := [some (.int z3), some (.int z2)]) e_z3 dJ6_numberOfLeadingZeros_0f7a4_72 rfl (Nat.le_of_ble_eq_true rfl) rfl ?_
    exact v_J6_numberOfLeadingZeros_0f7a4_73 hf

set_option maxHeartbeats 4000000 in
theorem v_J6_numberOfLeadingZeros_0f7a4_48 {w : Wo} {K : Kn} {q : Int32} {m : Mem} {x0 : Int32} {x1 : Int32} (hf : f_J6_numberOfLeadingZeros_0f7a4_48 x0 x1 = some q) : VV w RJ6 cJ6_numberOfLeadingZeros_0f7a4 2 (some .int) rm_J6_numberOfLeadingZeros_0f7a4 false (QM w K (some (.int q)) m 0 0) K 48 [some (.int x0), some (.int x1)] [] 0 0 m := by
  unfold f_J6_numberOfLeadingZeros_0f7a4_48 at hf
  refine vv_iload_n 49 dJ6_numberOfLeadingZeros_0f7a4_48 rfl rfl ?_
  refine vv_bipush 51 (v := 16) dJ6_numberOfLeadingZeros_0f7a4_49 rfl (by decide) ?_
  refine vv_icmp_lt 61 54 dJ6_numberOfLeadingZeros_0f7a4_51 rfl (by decide) (fun c1 => ?_) (fun c1 => ?_)
  · rw [if_pos c1] at hf
    exact v_J6_numberOfLeadingZeros_0f7a4_61 hf
  · rw [if_neg c1] at hf
    obtain ⟨z2, e_z2, hf⟩ := bd_s hf
    refine vv_iincE (q := 57) (v := z2) (c := (-4)) (L' := [some (.int x0), some (.int z2)]) e_z2 dJ6_numberOfLeadingZeros_0f7a4_54 rfl rfl (by decide) (Nat.le_of_ble_eq_true rfl) rfl ?_
    refine vv_iload_n 58 dJ6_numberOfLeadingZeros_0f7a4_57 rfl rfl ?_
    refine vv_iconst 59 (v := 4) dJ6_numberOfLeadingZeros_0f7a4_58 rfl (by decide) ?_
    refine vv_iushr 60 dJ6_numberOfLeadingZeros_0f7a4_59 rfl ?_
    obtain ⟨z3, e_z3, hf⟩ := bd_s hf
    refine vv_istore_nE (q := 61) (v := z3) (L' := [some (.int z3), some (.int z2)]) e_z3 dJ6_numberOfLeadingZeros_0f7a4_60 rfl (Nat.le_of_ble_eq_true rfl) rfl ?_
    exact v_J6_numberOfLeadingZeros_0f7a4_61 hf

set_option maxHeartbeats 4000000 in
theorem v_J6_numberOfLeadingZeros_0f7a4_33 {w : Wo} {K : Kn} {q : Int32} {m : Mem} {x0 : Int32} {x1 : Int32} (hf : f_J6_numberOfLeadingZeros_0f7a4_33 x0 x1 = some q) : VV w RJ6 cJ6_numberOfLeadingZeros_0f7a4 2 (some .int) rm_J6_numberOfLeadingZeros_0f7a4 false (QM w K (some (.int q)) m 0 0) K 33 [some (.int x0), some (.int x1)] [] 0 0 m := by
  unfold f_J6_numberOfLeadingZeros_0f7a4_33 at hf
  refine vv_iload_n 34 dJ6_numberOfLeadingZeros_0f7a4_33 rfl rfl ?_
  refine vv_sipush 37 (v := 256) dJ6_numberOfLeadingZeros_0f7a4_34 rfl (by decide) ?_
  refine vv_icmp_lt 48 40 dJ6_numberOfLeadingZeros_0f7a4_37 rfl (by decide) (fun c1 => ?_) (fun c1 => ?_)
  · rw [if_pos c1] at hf
    exact v_J6_numberOfLeadingZeros_0f7a4_48 hf
  · rw [if_neg c1] at hf
    obtain ⟨z2, e_z2, hf⟩ := bd_s hf
    refine vv_iincE (q := 43) (v := z2) (c := (-8)) (L' := [some (.int x0), some (.int z2)]) e_z2 dJ6_numberOfLeadingZeros_0f7a4_40 rfl rfl (by decide) (Nat.le_of_ble_eq_true rfl) rfl ?_
    refine vv_iload_n 44 dJ6_numberOfLeadingZeros_0f7a4_43 rfl rfl ?_
    refine vv_bipush 46 (v := 8) dJ6_numberOfLeadingZeros_0f7a4_44 rfl (by decide) ?_
    refine vv_iushr 47 dJ6_numberOfLeadingZeros_0f7a4_46 rfl ?_
    obtain ⟨z3, e_z3, hf⟩ := bd_s hf
    refine vv_istore_nE (q := 48) (v := z3) (L' := [some (.int z3), some (.int z2)]) e_z3 dJ6_numberOfLeadingZeros_0f7a4_47 rfl (Nat.le_of_ble_eq_true rfl) rfl ?_
    exact v_J6_numberOfLeadingZeros_0f7a4_48 hf

set_option maxHeartbeats 4000000 in
theorem v_J6_numberOfLeadingZeros_0f7a4_0 {w : Wo} {K : Kn} {q : Int32} {m : Mem} {x0 : Int32} (hf : f_J6_numberOfLeadingZeros_0f7a4 x0 = some q) : VV w RJ6 cJ6_numberOfLeadingZeros_0f7a4 2 (some .int) rm_J6_numberOfLeadingZeros_0f7a4 false (QM w K (some (.int q)) m 0 0) K 0 [some (.int x0), none] [] 0 0 m := by
  unfold f_J6_numberOfLeadingZeros_0f7a4 at hf
  refine vv_iload_n 1 dJ6_numberOfLeadingZeros_0f7a4_0 rfl rfl ?_
  refine vv_if_gt 15 4 dJ6_numberOfLeadingZeros_0f7a4_1 rfl (by decide) (fun c1 => ?_) (fun c1 => ?_)
  · rw [if_pos c1] at hf
    refine vv_bipush 17 (v := 31) dJ6_numberOfLeadingZeros_0f7a4_15 rfl (by decide) ?_
    refine vv_istore_n 18 (L' := [some (.int x0), some (.int (31 : Int32))]) dJ6_numberOfLeadingZeros_0f7a4_17 rfl (Nat.le_of_ble_eq_true rfl) rfl ?_
    refine vv_iload_n 19 dJ6_numberOfLeadingZeros_0f7a4_18 rfl rfl ?_
    refine vv_ldcw 22 (v := 65536) dJ6_numberOfLeadingZeros_0f7a4_19 rfl w_500 ?_
    refine vv_icmp_lt 33 25 dJ6_numberOfLeadingZeros_0f7a4_22 rfl (by decide) (fun c2 => ?_) (fun c2 => ?_)
    · rw [if_pos c2] at hf
      exact v_J6_numberOfLeadingZeros_0f7a4_33 hf
    · rw [if_neg c2] at hf
      obtain ⟨z3, e_z3, hf⟩ := bd_s hf
      refine vv_iincE (q := 28) (v := z3) (c := (-16)) (L' := [some (.int x0), some (.int z3)]) e_z3 dJ6_numberOfLeadingZeros_0f7a4_25 rfl rfl (by decide) (Nat.le_of_ble_eq_true rfl) rfl ?_
      refine vv_iload_n 29 dJ6_numberOfLeadingZeros_0f7a4_28 rfl rfl ?_
      refine vv_bipush 31 (v := 16) dJ6_numberOfLeadingZeros_0f7a4_29 rfl (by decide) ?_
      refine vv_iushr 32 dJ6_numberOfLeadingZeros_0f7a4_31 rfl ?_
      obtain ⟨z4, e_z4, hf⟩ := bd_s hf
      refine vv_istore_nE (q := 33) (v := z4) (L' := [some (.int z4), some (.int z3)]) e_z4 dJ6_numberOfLeadingZeros_0f7a4_32 rfl (Nat.le_of_ble_eq_true rfl) rfl ?_
      exact v_J6_numberOfLeadingZeros_0f7a4_33 hf
  · rw [if_neg c1] at hf
    refine vv_iload_n 5 dJ6_numberOfLeadingZeros_0f7a4_4 rfl rfl ?_
    refine vv_if_ne 13 8 dJ6_numberOfLeadingZeros_0f7a4_5 rfl (by decide) (fun c5 => ?_) (fun c5 => ?_)
    · rw [if_pos c5] at hf
      refine vv_bipush 10 (v := 32) dJ6_numberOfLeadingZeros_0f7a4_8 rfl (by decide) ?_
      refine vv_goto 14 dJ6_numberOfLeadingZeros_0f7a4_10 (by decide) ?_
      obtain rfl := Option.some.inj hf
      exact vv_iret dJ6_numberOfLeadingZeros_0f7a4_14 rfl
    · rw [if_neg c5] at hf
      refine vv_iconst 14 (v := 0) dJ6_numberOfLeadingZeros_0f7a4_13 rfl (by decide) ?_
      obtain rfl := Option.some.inj hf
      exact vv_iret dJ6_numberOfLeadingZeros_0f7a4_14 rfl

theorem c_J6_numberOfLeadingZeros_0f7a4 {w : Wo} {K : Kn} {x0 : Int32} {q : Int32} {m : Mem} (hf : F_J6_numberOfLeadingZeros_0f7a4 x0 = some q) : MM w K K yJ6_numberOfLeadingZeros_0f7a4 cJ6_numberOfLeadingZeros_0f7a4 2 (some .int) rm_J6_numberOfLeadingZeros_0f7a4 [.int x0] m (some (.int q)) m 0 0 :=
  mm_of (ini := false) (n := 1) (by decide +kernel) rfl (fun h => by first | rfl | cases h) (Nat.le_of_ble_eq_true rfl) rfl (v_J6_numberOfLeadingZeros_0f7a4_0 hf)

set_option maxHeartbeats 4000000 in
theorem v_J13_numberOfLeadingZeros_95d88_0 {w : Wo} {K : Kn} {x0 : Int64} {q : Int32} {m : Mem} (hf : f_J13_numberOfLeadingZeros_95d88 x0 = some q) : VV w RJ13 cJ13_numberOfLeadingZeros_95d88 3 (some .int) rm_J13_numberOfLeadingZeros_95d88 false (QM w K (some (.int q)) m 0 0) K 0 [some (.long x0), none, none] [] 0 0 m := by
  unfold f_J13_numberOfLeadingZeros_95d88 at hf
  refine vv_lload_n 1 dJ13_numberOfLeadingZeros_95d88_0 rfl rfl ?_
  refine vv_bipush 3 (v := 32) dJ13_numberOfLeadingZeros_95d88_1 rfl (by decide) ?_
  refine vv_lushr 4 dJ13_numberOfLeadingZeros_95d88_3 rfl ?_
  refine vv_l2i 5 dJ13_numberOfLeadingZeros_95d88_4 rfl ?_
  obtain ⟨z1, e_z1, hf⟩ := bd_s hf
  refine vv_istore_nE (q := 6) (v := z1) (L' := [some (.long x0), none, some (.int z1)]) e_z1 dJ13_numberOfLeadingZeros_95d88_5 rfl (Nat.le_of_ble_eq_true rfl) rfl ?_
  refine vv_iload_n 7 dJ13_numberOfLeadingZeros_95d88_6 rfl rfl ?_
  refine vv_if_ne 21 10 dJ13_numberOfLeadingZeros_95d88_7 rfl (by decide) (fun c2 => ?_) (fun c2 => ?_)
  · rw [if_pos c2] at hf
    refine vv_bipush 12 (v := 32) dJ13_numberOfLeadingZeros_95d88_10 rfl (by decide) ?_
    refine vv_lload_n 13 dJ13_numberOfLeadingZeros_95d88_12 rfl rfl ?_
    refine vv_l2i 14 dJ13_numberOfLeadingZeros_95d88_13 rfl ?_
    obtain ⟨q3, g_q3, hf⟩ := bind_s hf
    refine vv_callS 17 (st := [.int (32 : Int32)]) (As := [.int ((x0).toInt32)]) (stk2 := [.int q3, .int (32 : Int32)]) (cl2 := 0) (sl2 := 0) dJ13_numberOfLeadingZeros_95d88_14 rfl lk_RJ13_308 w_498 ⟨(Nat.le_of_ble_eq_true rfl), (Nat.le_of_ble_eq_true rfl)⟩ rfl rfl ⟨(Nat.le_of_ble_eq_true rfl), (Nat.le_of_ble_eq_true rfl)⟩ rfl (Nat.le_of_ble_eq_true rfl) rfl rfl rfl rfl (c_J6_numberOfLeadingZeros_0f7a4 g_q3) ?_
    refine vv_iadd 18 dJ13_numberOfLeadingZeros_95d88_17 rfl ?_
    refine vv_goto 25 dJ13_numberOfLeadingZeros_95d88_18 (by decide) ?_
    obtain rfl := Option.some.inj hf
    exact vv_iret dJ13_numberOfLeadingZeros_95d88_25 rfl
  · rw [if_neg c2] at hf
    refine vv_iload_n 22 dJ13_numberOfLeadingZeros_95d88_21 rfl rfl ?_
    obtain ⟨q4, g_q4, hf⟩ := bind_s hf
    refine vv_callS 25 (st := []) (As := [.int z1]) (stk2 := [.int q4]) (cl2 := 0) (sl2 := 0) dJ13_numberOfLeadingZeros_95d88_22 rfl lk_RJ13_308 w_498 ⟨(Nat.le_of_ble_eq_true rfl), (Nat.le_of_ble_eq_true rfl)⟩ rfl rfl ⟨(Nat.le_of_ble_eq_true rfl), (Nat.le_of_ble_eq_true rfl)⟩ rfl (Nat.le_of_ble_eq_true rfl) rfl rfl rfl rfl (c_J6_numberOfLeadingZeros_0f7a4 g_q4) ?_
    obtain rfl := Option.some.inj hf
    exact vv_iret dJ13_numberOfLeadingZeros_95d88_25 rfl

theorem c_J13_numberOfLeadingZeros_95d88 {w : Wo} {K : Kn} {x0 : Int64} {q : Int32} {m : Mem} (hf : F_J13_numberOfLeadingZeros_95d88 x0 = some q) : MM w K K yJ13_numberOfLeadingZeros_95d88 cJ13_numberOfLeadingZeros_95d88 3 (some .int) rm_J13_numberOfLeadingZeros_95d88 [.long x0] m (some (.int q)) m 0 0 :=
  mm_of (ini := false) (n := 1) (by decide +kernel) rfl (fun h => by first | rfl | cases h) (Nat.le_of_ble_eq_true rfl) rfl (v_J13_numberOfLeadingZeros_95d88_0 hf)

set_option maxHeartbeats 4000000 in
theorem v_J6_numberOfTrailingZeros_0f7a4_74 {w : Wo} {K : Kn} {q : Int32} {m : Mem} {x0 : Int32} {x1 : Int32} (hf : f_J6_numberOfTrailingZeros_0f7a4_74 x0 x1 = some q) : VV w RJ6 cJ6_numberOfTrailingZeros_0f7a4 2 (some .int) rm_J6_numberOfTrailingZeros_0f7a4 false (QM w K (some (.int q)) m 0 0) K 74 [some (.int x0), some (.int x1)] [] 0 0 m := by
  unfold f_J6_numberOfTrailingZeros_0f7a4_74 at hf
  refine vv_iload_n 75 dJ6_numberOfTrailingZeros_0f7a4_74 rfl rfl ?_
  refine vv_iload_n 76 dJ6_numberOfTrailingZeros_0f7a4_75 rfl rfl ?_
  refine vv_iconst 77 (v := 1) dJ6_numberOfTrailingZeros_0f7a4_76 rfl (by decide) ?_
  refine vv_iushr 78 dJ6_numberOfTrailingZeros_0f7a4_77 rfl ?_
  refine vv_iadd 79 dJ6_numberOfTrailingZeros_0f7a4_78 rfl ?_
  obtain rfl := Option.some.inj hf
  exact vv_iret dJ6_numberOfTrailingZeros_0f7a4_79 rfl

set_option maxHeartbeats 4000000 in
theorem v_J6_numberOfTrailingZeros_0f7a4_62 {w : Wo} {K : Kn} {q : Int32} {m : Mem} {x0 : Int32} {x1 : Int32} (hf : f_J6_numberOfTrailingZeros_0f7a4_62 x0 x1 = some q) : VV w RJ6 cJ6_numberOfTrailingZeros_0f7a4 2 (some .int) rm_J6_numberOfTrailingZeros_0f7a4 false (QM w K (some (.int q)) m 0 0) K 62 [some (.int x0), some (.int x1)] [] 0 0 m := by
  unfold f_J6_numberOfTrailingZeros_0f7a4_62 at hf
  refine vv_iload_n 63 dJ6_numberOfTrailingZeros_0f7a4_62 rfl rfl ?_
  refine vv_iconst 64 (v := 4) dJ6_numberOfTrailingZeros_0f7a4_63 rfl (by decide) ?_
  refine vv_icmp_le 74 67 dJ6_numberOfTrailingZeros_0f7a4_64 rfl (by decide) (fun c1 => ?_) (fun c1 => ?_)
  · rw [if_pos c1] at hf
    exact v_J6_numberOfTrailingZeros_0f7a4_74 hf
  · rw [if_neg c1] at hf
    obtain ⟨z2, e_z2, hf⟩ := bd_s hf
    refine vv_iincE (q := 70) (v := z2) (c := 2) (L' := [some (.int x0), some (.int z2)]) e_z2 dJ6_numberOfTrailingZeros_0f7a4_67 rfl rfl (by decide) (Nat.le_of_ble_eq_true rfl) rfl ?_
    refine vv_iload_n 71 dJ6_numberOfTrailingZeros_0f7a4_70 rfl rfl ?_
    refine vv_iconst 72 (v := 2) dJ6_numberOfTrailingZeros_0f7a4_71 rfl (by decide) ?_
    refine vv_iushr 73 dJ6_numberOfTrailingZeros_0f7a4_72 rfl ?_
    obtain ⟨z3, e_z3, hf⟩ := bd_s hf
    refine vv_istore_nE (q := 74) (v := z3) (L' := [some (.int z3), some (.int z2)]) e_z3 dJ6_numberOfTrailingZeros_0f7a4_73 rfl (Nat.le_of_ble_eq_true rfl) rfl ?_
    exact v_J6_numberOfTrailingZeros_0f7a4_74 hf

set_option maxHeartbeats 4000000 in
theorem v_J6_numberOfTrailingZeros_0f7a4_49 {w : Wo} {K : Kn} {q : Int32} {m : Mem} {x0 : Int32} {x1 : Int32} (hf : f_J6_numberOfTrailingZeros_0f7a4_49 x0 x1 = some q) : VV w RJ6 cJ6_numberOfTrailingZeros_0f7a4 2 (some .int) rm_J6_numberOfTrailingZeros_0f7a4 false (QM w K (some (.int q)) m 0 0) K 49 [some (.int x0), some (.int x1)] [] 0 0 m := by
  unfold f_J6_numberOfTrailingZeros_0f7a4_49 at hf
  refine vv_iload_n 50 dJ6_numberOfTrailingZeros_0f7a4_49 rfl rfl ?_
  refine vv_bipush 52 (v := 16) dJ6_numberOfTrailingZeros_0f7a4_50 rfl (by decide) ?_
  refine vv_icmp_le 62 55 dJ6_numberOfTrailingZeros_0f7a4_52 rfl (by decide) (fun c1 => ?_) (fun c1 => ?_)
  · rw [if_pos c1] at hf
    exact v_J6_numberOfTrailingZeros_0f7a4_62 hf
  · rw [if_neg c1] at hf
    obtain ⟨z2, e_z2, hf⟩ := bd_s hf
    refine vv_iincE (q := 58) (v := z2) (c := 4) (L' := [some (.int x0), some (.int z2)]) e_z2 dJ6_numberOfTrailingZeros_0f7a4_55 rfl rfl (by decide) (Nat.le_of_ble_eq_true rfl) rfl ?_
    refine vv_iload_n 59 dJ6_numberOfTrailingZeros_0f7a4_58 rfl rfl ?_
    refine vv_iconst 60 (v := 4) dJ6_numberOfTrailingZeros_0f7a4_59 rfl (by decide) ?_
    refine vv_iushr 61 dJ6_numberOfTrailingZeros_0f7a4_60 rfl ?_
    obtain ⟨z3, e_z3, hf⟩ := bd_s hf
    refine vv_istore_nE (q := 62) (v := z3) (L' := [some (.int z3), some (.int z2)]) e_z3 dJ6_numberOfTrailingZeros_0f7a4_61 rfl (Nat.le_of_ble_eq_true rfl) rfl ?_
    exact v_J6_numberOfTrailingZeros_0f7a4_62 hf

set_option maxHeartbeats 4000000 in
theorem v_J6_numberOfTrailingZeros_0f7a4_34 {w : Wo} {K : Kn} {q : Int32} {m : Mem} {x0 : Int32} {x1 : Int32} (hf : f_J6_numberOfTrailingZeros_0f7a4_34 x0 x1 = some q) : VV w RJ6 cJ6_numberOfTrailingZeros_0f7a4 2 (some .int) rm_J6_numberOfTrailingZeros_0f7a4 false (QM w K (some (.int q)) m 0 0) K 34 [some (.int x0), some (.int x1)] [] 0 0 m := by
  unfold f_J6_numberOfTrailingZeros_0f7a4_34 at hf
  refine vv_iload_n 35 dJ6_numberOfTrailingZeros_0f7a4_34 rfl rfl ?_
  refine vv_sipush 38 (v := 256) dJ6_numberOfTrailingZeros_0f7a4_35 rfl (by decide) ?_
  refine vv_icmp_le 49 41 dJ6_numberOfTrailingZeros_0f7a4_38 rfl (by decide) (fun c1 => ?_) (fun c1 => ?_)
  · rw [if_pos c1] at hf
    exact v_J6_numberOfTrailingZeros_0f7a4_49 hf
  · rw [if_neg c1] at hf
    obtain ⟨z2, e_z2, hf⟩ := bd_s hf
    refine vv_iincE (q := 44) (v := z2) (c := 8) (L' := [some (.int x0), some (.int z2)]) e_z2 dJ6_numberOfTrailingZeros_0f7a4_41 rfl rfl (by decide) (Nat.le_of_ble_eq_true rfl) rfl ?_
    refine vv_iload_n 45 dJ6_numberOfTrailingZeros_0f7a4_44 rfl rfl ?_
    refine vv_bipush 47 (v := 8) dJ6_numberOfTrailingZeros_0f7a4_45 rfl (by decide) ?_
    refine vv_iushr 48 dJ6_numberOfTrailingZeros_0f7a4_47 rfl ?_
    obtain ⟨z3, e_z3, hf⟩ := bd_s hf
    refine vv_istore_nE (q := 49) (v := z3) (L' := [some (.int z3), some (.int z2)]) e_z3 dJ6_numberOfTrailingZeros_0f7a4_48 rfl (Nat.le_of_ble_eq_true rfl) rfl ?_
    exact v_J6_numberOfTrailingZeros_0f7a4_49 hf

set_option maxHeartbeats 4000000 in
theorem v_J6_numberOfTrailingZeros_0f7a4_0 {w : Wo} {K : Kn} {q : Int32} {m : Mem} {x0 : Int32} (hf : f_J6_numberOfTrailingZeros_0f7a4 x0 = some q) : VV w RJ6 cJ6_numberOfTrailingZeros_0f7a4 2 (some .int) rm_J6_numberOfTrailingZeros_0f7a4 false (QM w K (some (.int q)) m 0 0) K 0 [some (.int x0), none] [] 0 0 m := by
  unfold f_J6_numberOfTrailingZeros_0f7a4 at hf
  refine vv_iload_n 1 dJ6_numberOfTrailingZeros_0f7a4_0 rfl rfl ?_
  refine vv_iconst 2 (v := (-1)) dJ6_numberOfTrailingZeros_0f7a4_1 rfl (by decide) ?_
  refine vv_ixor 3 dJ6_numberOfTrailingZeros_0f7a4_2 rfl ?_
  refine vv_iload_n 4 dJ6_numberOfTrailingZeros_0f7a4_3 rfl rfl ?_
  refine vv_iconst 5 (v := 1) dJ6_numberOfTrailingZeros_0f7a4_4 rfl (by decide) ?_
  refine vv_isub 6 dJ6_numberOfTrailingZeros_0f7a4_5 rfl ?_
  refine vv_iand 7 dJ6_numberOfTrailingZeros_0f7a4_6 rfl ?_
  obtain ⟨z1, e_z1, hf⟩ := bd_s hf
  refine vv_istore_nE (q := 8) (v := z1) (L' := [some (.int z1), none]) e_z1 dJ6_numberOfTrailingZeros_0f7a4_7 rfl (Nat.le_of_ble_eq_true rfl) rfl ?_
  refine vv_iload_n 9 dJ6_numberOfTrailingZeros_0f7a4_8 rfl rfl ?_
  refine vv_if_gt 17 12 dJ6_numberOfTrailingZeros_0f7a4_9 rfl (by decide) (fun c2 => ?_) (fun c2 => ?_)
  · rw [if_pos c2] at hf
    refine vv_iconst 18 (v := 1) dJ6_numberOfTrailingZeros_0f7a4_17 rfl (by decide) ?_
    refine vv_istore_n 19 (L' := [some (.int z1), some (.int (1 : Int32))]) dJ6_numberOfTrailingZeros_0f7a4_18 rfl (Nat.le_of_ble_eq_true rfl) rfl ?_
    refine vv_iload_n 20 dJ6_numberOfTrailingZeros_0f7a4_19 rfl rfl ?_
    refine vv_ldcw 23 (v := 65536) dJ6_numberOfTrailingZeros_0f7a4_20 rfl w_500 ?_
    refine vv_icmp_le 34 26 dJ6_numberOfTrailingZeros_0f7a4_23 rfl (by decide) (fun c3 => ?_) (fun c3 => ?_)
    · rw [if_pos c3] at hf
      exact v_J6_numberOfTrailingZeros_0f7a4_34 hf
    · rw [if_neg c3] at hf
      obtain ⟨z4, e_z4, hf⟩ := bd_s hf
      refine vv_iincE (q := 29) (v := z4) (c := 16) (L' := [some (.int z1), some (.int z4)]) e_z4 dJ6_numberOfTrailingZeros_0f7a4_26 rfl rfl (by decide) (Nat.le_of_ble_eq_true rfl) rfl ?_
      refine vv_iload_n 30 dJ6_numberOfTrailingZeros_0f7a4_29 rfl rfl ?_
      refine vv_bipush 32 (v := 16) dJ6_numberOfTrailingZeros_0f7a4_30 rfl (by decide) ?_
      refine vv_iushr 33 dJ6_numberOfTrailingZeros_0f7a4_32 rfl ?_
      obtain ⟨z5, e_z5, hf⟩ := bd_s hf
      refine vv_istore_nE (q := 34) (v := z5) (L' := [some (.int z5), some (.int z4)]) e_z5 dJ6_numberOfTrailingZeros_0f7a4_33 rfl (Nat.le_of_ble_eq_true rfl) rfl ?_
      exact v_J6_numberOfTrailingZeros_0f7a4_34 hf
  · rw [if_neg c2] at hf
    refine vv_iload_n 13 dJ6_numberOfTrailingZeros_0f7a4_12 rfl rfl ?_
    refine vv_bipush 15 (v := 32) dJ6_numberOfTrailingZeros_0f7a4_13 rfl (by decide) ?_
    refine vv_iand 16 dJ6_numberOfTrailingZeros_0f7a4_15 rfl ?_
    obtain rfl := Option.some.inj hf
    exact vv_iret dJ6_numberOfTrailingZeros_0f7a4_16 rfl

theorem c_J6_numberOfTrailingZeros_0f7a4 {w : Wo} {K : Kn} {x0 : Int32} {q : Int32} {m : Mem} (hf : F_J6_numberOfTrailingZeros_0f7a4 x0 = some q) : MM w K K yJ6_numberOfTrailingZeros_0f7a4 cJ6_numberOfTrailingZeros_0f7a4 2 (some .int) rm_J6_numberOfTrailingZeros_0f7a4 [.int x0] m (some (.int q)) m 0 0 :=
  mm_of (ini := false) (n := 1) (by decide +kernel) rfl (fun h => by first | rfl | cases h) (Nat.le_of_ble_eq_true rfl) rfl (v_J6_numberOfTrailingZeros_0f7a4_0 hf)

set_option maxHeartbeats 4000000 in
theorem v_J13_numberOfTrailingZeros_95d88_0 {w : Wo} {K : Kn} {x0 : Int64} {q : Int32} {m : Mem} (hf : f_J13_numberOfTrailingZeros_95d88 x0 = some q) : VV w RJ13 cJ13_numberOfTrailingZeros_95d88 3 (some .int) rm_J13_numberOfTrailingZeros_95d88 false (QM w K (some (.int q)) m 0 0) K 0 [some (.long x0), none, none] [] 0 0 m := by
  unfold f_J13_numberOfTrailingZeros_95d88 at hf
  refine vv_lload_n 1 dJ13_numberOfTrailingZeros_95d88_0 rfl rfl ?_
  refine vv_l2i 2 dJ13_numberOfTrailingZeros_95d88_1 rfl ?_
  obtain ⟨z1, e_z1, hf⟩ := bd_s hf
  refine vv_istore_nE (q := 3) (v := z1) (L' := [some (.long x0), none, some (.int z1)]) e_z1 dJ13_numberOfTrailingZeros_95d88_2 rfl (Nat.le_of_ble_eq_true rfl) rfl ?_
  refine vv_iload_n 4 dJ13_numberOfTrailingZeros_95d88_3 rfl rfl ?_
  refine vv_if_ne 21 7 dJ13_numberOfTrailingZeros_95d88_4 rfl (by decide) (fun c2 => ?_) (fun c2 => ?_)
  · rw [if_pos c2] at hf
    refine vv_bipush 9 (v := 32) dJ13_numberOfTrailingZeros_95d88_7 rfl (by decide) ?_
    refine vv_lload_n 10 dJ13_numberOfTrailingZeros_95d88_9 rfl rfl ?_
    refine vv_bipush 12 (v := 32) dJ13_numberOfTrailingZeros_95d88_10 rfl (by decide) ?_
    refine vv_lushr 13 dJ13_numberOfTrailingZeros_95d88_12 rfl ?_
    refine vv_l2i 14 dJ13_numberOfTrailingZeros_95d88_13 rfl ?_
    obtain ⟨q3, g_q3, hf⟩ := bind_s hf
    refine vv_callS 17 (st := [.int (32 : Int32)]) (As := [.int ((lushr x0 (32 : Int32)).toInt32)]) (stk2 := [.int q3, .int (32 : Int32)]) (cl2 := 0) (sl2 := 0) dJ13_numberOfTrailingZeros_95d88_14 rfl lk_RJ13_311 w_505 ⟨(Nat.le_of_ble_eq_true rfl), (Nat.le_of_ble_eq_true rfl)⟩ rfl rfl ⟨(Nat.le_of_ble_eq_true rfl), (Nat.le_of_ble_eq_true rfl)⟩ rfl (Nat.le_of_ble_eq_true rfl) rfl rfl rfl rfl (c_J6_numberOfTrailingZeros_0f7a4 g_q3) ?_
    refine vv_iadd 18 dJ13_numberOfTrailingZeros_95d88_17 rfl ?_
    refine vv_goto 25 dJ13_numberOfTrailingZeros_95d88_18 (by decide) ?_
    obtain rfl := Option.some.inj hf
    exact vv_iret dJ13_numberOfTrailingZeros_95d88_25 rfl
  · rw [if_neg c2] at hf
    refine vv_iload_n 22 dJ13_numberOfTrailingZeros_95d88_21 rfl rfl ?_
    obtain ⟨q4, g_q4, hf⟩ := bind_s hf
    refine vv_callS 25 (st := []) (As := [.int z1]) (stk2 := [.int q4]) (cl2 := 0) (sl2 := 0) dJ13_numberOfTrailingZeros_95d88_22 rfl lk_RJ13_311 w_505 ⟨(Nat.le_of_ble_eq_true rfl), (Nat.le_of_ble_eq_true rfl)⟩ rfl rfl ⟨(Nat.le_of_ble_eq_true rfl), (Nat.le_of_ble_eq_true rfl)⟩ rfl (Nat.le_of_ble_eq_true rfl) rfl rfl rfl rfl (c_J6_numberOfTrailingZeros_0f7a4 g_q4) ?_
    obtain rfl := Option.some.inj hf
    exact vv_iret dJ13_numberOfTrailingZeros_95d88_25 rfl

theorem c_J13_numberOfTrailingZeros_95d88 {w : Wo} {K : Kn} {x0 : Int64} {q : Int32} {m : Mem} (hf : F_J13_numberOfTrailingZeros_95d88 x0 = some q) : MM w K K yJ13_numberOfTrailingZeros_95d88 cJ13_numberOfTrailingZeros_95d88 3 (some .int) rm_J13_numberOfTrailingZeros_95d88 [.long x0] m (some (.int q)) m 0 0 :=
  mm_of (ini := false) (n := 1) (by decide +kernel) rfl (fun h => by first | rfl | cases h) (Nat.le_of_ble_eq_true rfl) rfl (v_J13_numberOfTrailingZeros_95d88_0 hf)

set_option maxHeartbeats 4000000 in
theorem v_J9_min_7cf53_0 {w : Wo} {K : Kn} {x0 : Int32} {x1 : Int32} {q : Int32} {m : Mem} (hf : f_J9_min_7cf53 x0 x1 = some q) : VV w RJ9 cJ9_min_7cf53 2 (some .int) rm_J9_min_7cf53 false (QM w K (some (.int q)) m 0 0) K 0 [some (.int x0), some (.int x1)] [] 0 0 m := by
  unfold f_J9_min_7cf53 at hf
  refine vv_iload_n 1 dJ9_min_7cf53_0 rfl rfl ?_
  refine vv_iload_n 2 dJ9_min_7cf53_1 rfl rfl ?_
  refine vv_icmp_gt 9 5 dJ9_min_7cf53_2 rfl (by decide) (fun c1 => ?_) (fun c1 => ?_)
  · rw [if_pos c1] at hf
    refine vv_iload_n 10 dJ9_min_7cf53_9 rfl rfl ?_
    obtain rfl := Option.some.inj hf
    exact vv_iret dJ9_min_7cf53_10 rfl
  · rw [if_neg c1] at hf
    refine vv_iload_n 6 dJ9_min_7cf53_5 rfl rfl ?_
    refine vv_goto 10 dJ9_min_7cf53_6 (by decide) ?_
    obtain rfl := Option.some.inj hf
    exact vv_iret dJ9_min_7cf53_10 rfl

theorem c_J9_min_7cf53 {w : Wo} {K : Kn} {x0 : Int32} {x1 : Int32} {q : Int32} {m : Mem} (hf : F_J9_min_7cf53 x0 x1 = some q) : MM w K K yJ9_min_7cf53 cJ9_min_7cf53 2 (some .int) rm_J9_min_7cf53 [.int x0, .int x1] m (some (.int q)) m 0 0 :=
  mm_of (ini := false) (n := 0) (by decide +kernel) rfl (fun h => by first | rfl | cases h) (Nat.le_of_ble_eq_true rfl) rfl (v_J9_min_7cf53_0 hf)

set_option maxHeartbeats 4000000 in
theorem v_X1_isInWindow_46 {w : Wo} {K : Kn} {a0 : Nat} {x1 : Int32} {x2 : Int32} {q : Int32} {m : Mem} (t_a0 : K a0 = some (.inl 1)) (hf : f_X1_isInWindow_46 K m a0 x1 x2 = some q) : VV w RX1 cX1_isInWindow 3 (some .boolean) rm_X1_isInWindow false (QM w K (some (.int q)) m 0 0) K 46 [none, none, none] [] 0 0 m := by
  unfold f_X1_isInWindow_46 at hf
  refine vv_iconst 47 (v := 0) dX1_isInWindow_46 rfl (by decide) ?_
  obtain rfl := Option.some.inj hf
  exact vv_zret dX1_isInWindow_47 rfl (Or.inl rfl)

set_option maxHeartbeats 4000000 in
theorem v_X1_isInWindow_0 {w : Wo} {K : Kn} {a0 : Nat} {x1 : Int32} {x2 : Int32} {q : Int32} {m : Mem} (t_a0 : K a0 = some (.inl 1)) (hf : f_X1_isInWindow K m a0 x1 x2 = some q) : VV w RX1 cX1_isInWindow 3 (some .boolean) rm_X1_isInWindow false (QM w K (some (.int q)) m 0 0) K 0 [some (.ref a0), some (.int x1), some (.int x2)] [] 0 0 m := by
  unfold f_X1_isInWindow at hf
  refine vv_aload_n 1 dX1_isInWindow_0 rfl rfl ?_
  refine gf_RX1_9 4 dX1_isInWindow_1 rfl t_a0 ?_
  refine vv_iconst 5 (v := (-1)) dX1_isInWindow_4 rfl (by decide) ?_
  refine vv_icmp_eq 46 8 dX1_isInWindow_5 rfl (by decide) (fun c1 => ?_) (fun c1 => ?_)
  · rw [if_pos c1] at hf
    exact VV.lle (v_X1_isInWindow_46 t_a0 hf) (lle_n (lle_n (lle_n lle_nil)))
  · rw [if_neg c1] at hf
    refine vv_iload_n 9 dX1_isInWindow_8 rfl rfl ?_
    refine vv_aload_n 10 dX1_isInWindow_9 rfl rfl ?_
    refine gf_RX1_9 13 dX1_isInWindow_10 rfl t_a0 ?_
    refine vv_icmp_lt 46 16 dX1_isInWindow_13 rfl (by decide) (fun c2 => ?_) (fun c2 => ?_)
    · rw [if_pos c2] at hf
      exact VV.lle (v_X1_isInWindow_46 t_a0 hf) (lle_n (lle_n (lle_n lle_nil)))
    · rw [if_neg c2] at hf
      refine vv_iload_n 17 dX1_isInWindow_16 rfl rfl ?_
      refine vv_aload_n 18 dX1_isInWindow_17 rfl rfl ?_
      refine gf_RX1_25 21 dX1_isInWindow_18 rfl t_a0 ?_
      refine vv_icmp_lt 46 24 dX1_isInWindow_21 rfl (by decide) (fun c3 => ?_) (fun c3 => ?_)
      · rw [if_pos c3] at hf
        exact VV.lle (v_X1_isInWindow_46 t_a0 hf) (lle_n (lle_n (lle_n lle_nil)))
      · rw [if_neg c3] at hf
        refine vv_iload_n 25 dX1_isInWindow_24 rfl rfl ?_
        refine vv_iload_n 26 dX1_isInWindow_25 rfl rfl ?_
        refine vv_iadd 27 dX1_isInWindow_26 rfl ?_
        refine vv_aload_n 28 dX1_isInWindow_27 rfl rfl ?_
        refine gf_RX1_9 31 dX1_isInWindow_28 rfl t_a0 ?_
        refine vv_isub 32 dX1_isInWindow_31 rfl ?_
        refine vv_aload_n 33 dX1_isInWindow_32 rfl rfl ?_
        refine gf_RX1_25 36 dX1_isInWindow_33 rfl t_a0 ?_
        refine vv_isub 37 dX1_isInWindow_36 rfl ?_
        refine vv_bipush 39 (v := 11) dX1_isInWindow_37 rfl (by decide) ?_
        refine vv_icmp_gt 46 42 dX1_isInWindow_39 rfl (by decide) (fun c4 => ?_) (fun c4 => ?_)
        · rw [if_pos c4] at hf
          exact VV.lle (v_X1_isInWindow_46 t_a0 hf) (lle_n (lle_n (lle_n lle_nil)))
        · rw [if_neg c4] at hf
          refine vv_iconst 43 (v := 1) dX1_isInWindow_42 rfl (by decide) ?_
          refine vv_goto 47 dX1_isInWindow_43 (by decide) ?_
          obtain rfl := Option.some.inj hf
          exact vv_zret dX1_isInWindow_47 rfl (Or.inr rfl)

theorem c_X1_isInWindow {w : Wo} {K : Kn} {a0 : Nat} {x1 : Int32} {x2 : Int32} {q : Int32} {m : Mem} (t_a0 : K a0 = some (.inl 1)) (hf : F_X1_isInWindow K m a0 x1 x2 = some q) : MM w K K yX1_isInWindow cX1_isInWindow 3 (some .boolean) rm_X1_isInWindow [.ref a0, .int x1, .int x2] m (some (.int q)) m 0 0 :=
  mm_of (ini := false) (n := 0) (plainFor_of_name (by decide)) rfl (fun h => by first | rfl | cases h) (Nat.le_of_ble_eq_true rfl) rfl (v_X1_isInWindow_0 t_a0 hf)

set_option maxHeartbeats 4000000 in
theorem v_X1_weigh_0 {w : Wo} {K : Kn} {a0 : Nat} {x1 : Int32} {x2 : Int64} {q : Mem} (t_a0 : K a0 = some (.inl 1)) {m : Mem} (hf : f_X1_weigh K a0 x1 x2 m = some q) : VV w RX1 cX1_weigh 6 none rm_X1_weigh false (QM w K none q 0 0) K 0 [some (.ref a0), some (.int x1), some (.long x2), none, none, none] [] 0 0 m := by
  unfold f_X1_weigh at hf
  refine vv_aload_n 1 dX1_weigh_0 rfl rfl ?_
  refine vv_iload_n 2 dX1_weigh_1 rfl rfl ?_
  obtain ⟨m1, e_m1, hf⟩ := bd_s hf
  refine pf_RX1_28 5 dX1_weigh_2 rfl t_a0 e_m1 ?_
  refine vv_aload_n 6 dX1_weigh_5 rfl rfl ?_
  refine vv_lload_n 7 dX1_weigh_6 rfl rfl ?_
  obtain ⟨m2, e_m2, hf⟩ := bd_s hf
  refine pf_RX1_31 10 dX1_weigh_7 rfl t_a0 e_m2 ?_
  refine vv_aload_n 11 dX1_weigh_10 rfl rfl ?_
  refine vv_iload_n 12 dX1_weigh_11 rfl rfl ?_
  refine vv_aload_n 13 dX1_weigh_12 rfl rfl ?_
  refine gf_RX1_15 16 dX1_weigh_13 rfl t_a0 ?_
  refine vv_isub 17 dX1_weigh_16 rfl ?_
  refine vv_aload_n 18 dX1_weigh_17 rfl rfl ?_
  refine gf_RX1_22 21 dX1_weigh_18 rfl t_a0 ?_
  refine vv_isub 22 dX1_weigh_21 rfl ?_
  obtain ⟨m3, e_m3, hf⟩ := bd_s hf
  refine pf_RX1_34 25 dX1_weigh_22 rfl t_a0 e_m3 ?_
  refine vv_aload_n 26 dX1_weigh_25 rfl rfl ?_
  refine vv_aload_n 27 dX1_weigh_26 rfl rfl ?_
  refine gf_RX1_34 30 dX1_weigh_27 rfl t_a0 ?_
  obtain ⟨q4, g_q4, hf⟩ := bind_s hf
  refine vv_callS 33 (st := [.ref a0]) (As := [.int (gI m3 a0 7)]) (stk2 := [.int q4, .ref a0]) (cl2 := 0) (sl2 := 0) dX1_weigh_30 rfl lk_RX1_37 w_492 ⟨(Nat.le_of_ble_eq_true rfl), (Nat.le_of_ble_eq_true rfl)⟩ rfl rfl ⟨(Nat.le_of_ble_eq_true rfl), (Nat.le_of_ble_eq_true rfl)⟩ rfl (Nat.le_of_ble_eq_true rfl) rfl rfl rfl rfl (c_X1_kindOf g_q4) ?_
  obtain ⟨m5, e_m5, hf⟩ := bd_s hf
  refine pf_RX1_41 36 dX1_weigh_33 rfl t_a0 e_m5 ?_
  refine vv_aload_n 37 dX1_weigh_36 rfl rfl ?_
  refine vv_aload_n 38 dX1_weigh_37 rfl rfl ?_
  refine gf_RX1_18 41 dX1_weigh_38 rfl t_a0 ?_
  refine vv_lload_n 42 dX1_weigh_41 rfl rfl ?_
  refine vv_lxor 43 dX1_weigh_42 rfl ?_
  obtain ⟨m6, e_m6, hf⟩ := bd_s hf
  refine pf_RX1_44 46 dX1_weigh_43 rfl t_a0 e_m6 ?_
  refine vv_aload_n 47 dX1_weigh_46 rfl rfl ?_
  refine gf_RX1_44 50 dX1_weigh_47 rfl t_a0 ?_
  obtain ⟨q7, g_q7, hf⟩ := bind_s hf
  refine vv_callS 53 (st := []) (As := [.long (gJ m6 a0 11)]) (stk2 := [.int q7]) (cl2 := 0) (sl2 := 0) dX1_weigh_50 rfl lk_RX1_47 w_495 ⟨(Nat.le_of_ble_eq_true rfl), (Nat.le_of_ble_eq_true rfl)⟩ rfl rfl ⟨(Nat.le_of_ble_eq_true rfl), (Nat.le_of_ble_eq_true rfl)⟩ rfl (Nat.le_of_ble_eq_true rfl) rfl rfl rfl rfl (c_J13_numberOfLeadingZeros_95d88 g_q7) ?_
  refine vv_istore 55 (L' := [some (.ref a0), some (.int x1), some (.long x2), none, some (.int q7), none]) dX1_weigh_53 rfl (Nat.le_of_ble_eq_true rfl) rfl ?_
  refine vv_aload_n 56 dX1_weigh_55 rfl rfl ?_
  refine gf_RX1_44 59 dX1_weigh_56 rfl t_a0 ?_
  obtain ⟨q8, g_q8, hf⟩ := bind_s hf
  refine vv_callS 62 (st := []) (As := [.long (gJ m6 a0 11)]) (stk2 := [.int q8]) (cl2 := 0) (sl2 := 0) dX1_weigh_59 rfl lk_RX1_53 w_502 ⟨(Nat.le_of_ble_eq_true rfl), (Nat.le_of_ble_eq_true rfl)⟩ rfl rfl ⟨(Nat.le_of_ble_eq_true rfl), (Nat.le_of_ble_eq_true rfl)⟩ rfl (Nat.le_of_ble_eq_true rfl) rfl rfl rfl rfl (c_J13_numberOfTrailingZeros_95d88 g_q8) ?_
  refine vv_istore 64 (L' := [some (.ref a0), some (.int x1), some (.long x2), none, some (.int q7), some (.int q8)]) dX1_weigh_62 rfl (Nat.le_of_ble_eq_true rfl) rfl ?_
  refine vv_aload_n 65 dX1_weigh_64 rfl rfl ?_
  refine vv_iload 67 dX1_weigh_65 rfl rfl ?_
  refine vv_bipush 69 (v := 31) dX1_weigh_67 rfl (by decide) ?_
  obtain ⟨q9, g_q9, hf⟩ := bind_s hf
  refine vv_callS 72 (st := [.ref a0]) (As := [.int q7, .int (31 : Int32)]) (stk2 := [.int q9, .ref a0]) (cl2 := 0) (sl2 := 0) dX1_weigh_69 rfl lk_RX1_56 w_508 ⟨(Nat.le_of_ble_eq_true rfl), (Nat.le_of_ble_eq_true rfl)⟩ rfl rfl ⟨(Nat.le_of_ble_eq_true rfl), (Nat.le_of_ble_eq_true rfl)⟩ rfl (Nat.le_of_ble_eq_true rfl) rfl rfl rfl rfl (c_J9_min_7cf53 g_q9) ?_
  obtain ⟨m10, e_m10, hf⟩ := bd_s hf
  refine pf_RX1_62 75 dX1_weigh_72 rfl t_a0 e_m10 ?_
  refine vv_aload_n 76 dX1_weigh_75 rfl rfl ?_
  refine vv_iload 78 dX1_weigh_76 rfl rfl ?_
  obtain ⟨m11, e_m11, hf⟩ := bd_s hf
  refine pf_RX1_65 81 dX1_weigh_78 rfl t_a0 e_m11 ?_
  refine vv_aload_n 82 dX1_weigh_81 rfl rfl ?_
  refine vv_gets 85 1 dX1_weigh_82 rfl (by decide) (by decide) ?_
  refine vv_aload_n 86 dX1_weigh_85 rfl rfl ?_
  refine gf_RX1_41 89 dX1_weigh_86 rfl t_a0 ?_
  obtain ⟨r12, g_r12, hf⟩ := bind_s hf
  refine vv_sald 90 1 dX1_weigh_89 rfl (by decide) g_r12 ?_
  refine vv_gets 93 2 dX1_weigh_90 rfl (by decide) (by decide) ?_
  refine vv_aload_n 94 dX1_weigh_93 rfl rfl ?_
  refine gf_RX1_41 97 dX1_weigh_94 rfl t_a0 ?_
  obtain ⟨r13, g_r13, hf⟩ := bind_s hf
  refine vv_sald 98 2 dX1_weigh_97 rfl (by decide) g_r13 ?_
  refine vv_iadd 99 dX1_weigh_98 rfl ?_
  obtain ⟨m14, e_m14, hf⟩ := bd_s hf
  refine pf_RX1_75 102 dX1_weigh_99 rfl t_a0 e_m14 ?_
  refine vv_aload_n 103 dX1_weigh_102 rfl rfl ?_
  refine gf_RX1_44 106 dX1_weigh_103 rfl t_a0 ?_
  refine vv_lconst 107 (v := 0) dX1_weigh_106 rfl (by decide) ?_
  refine vv_lcmp 108 dX1_weigh_107 rfl ?_
  refine vv_if_ne 129 111 dX1_weigh_108 rfl (by decide) (fun c15 => ?_) (fun c15 => ?_)
  · rw [if_pos c15] at hf
    refine vv_aload_n 112 dX1_weigh_111 rfl rfl ?_
    refine vv_iconst 113 (v := 5) dX1_weigh_112 rfl (by decide) ?_
    obtain ⟨m16, e_m16, hf⟩ := bd_s hf
    refine pf_RX1_78 116 dX1_weigh_113 rfl t_a0 e_m16 ?_
    refine vv_aload_n 117 dX1_weigh_116 rfl rfl ?_
    refine vv_dup 118 dX1_weigh_117 rfl rfl ?_
    refine gf_RX1_75 121 dX1_weigh_118 rfl t_a0 ?_
    refine vv_iconst 122 (v := 1) dX1_weigh_121 rfl (by decide) ?_
    refine vv_iadd 123 dX1_weigh_122 rfl ?_
    obtain ⟨m17, e_m17, hf⟩ := bd_s hf
    refine pf_RX1_75 126 dX1_weigh_123 rfl t_a0 e_m17 ?_
    refine vv_goto 197 dX1_weigh_126 (by decide) ?_
    obtain rfl := Option.some.inj hf
    exact vv_vret dX1_weigh_197 rfl
  · rw [if_neg c15] at hf
    refine vv_aload_n 130 dX1_weigh_129 rfl rfl ?_
    refine vv_iload 132 dX1_weigh_130 rfl rfl ?_
    refine vv_iload 134 dX1_weigh_132 rfl rfl ?_
    obtain ⟨q18, g_q18, hf⟩ := bind_s hf
    refine vv_callV 137 (st := []) (As := [.int q7, .int q8]) (stk2 := [.int q18]) (cl2 := 0) (sl2 := 0) dX1_weigh_134 rfl lk_RX1_81 w_516 w_1 rfl t_a0 ⟨(Nat.le_of_ble_eq_true rfl), (Nat.le_of_ble_eq_true rfl)⟩ rfl rfl ⟨(Nat.le_of_ble_eq_true rfl), (Nat.le_of_ble_eq_true rfl)⟩ rfl (Nat.le_of_ble_eq_true rfl) rfl rfl rfl rfl (c_X1_isInWindow t_a0 g_q18) ?_
    refine vv_if_eq 170 140 dX1_weigh_137 rfl (by decide) (fun c19 => ?_) (fun c19 => ?_)
    · rw [if_pos c19] at hf
      refine vv_aload_n 171 dX1_weigh_170 rfl rfl ?_
      refine vv_bipush 173 (v := 7) dX1_weigh_171 rfl (by decide) ?_
      obtain ⟨m20, e_m20, hf⟩ := bd_s hf
      refine pf_RX1_78 176 dX1_weigh_173 rfl t_a0 e_m20 ?_
      refine vv_aload_n 177 dX1_weigh_176 rfl rfl ?_
      refine vv_dup 178 dX1_weigh_177 rfl rfl ?_
      refine gf_RX1_75 181 dX1_weigh_178 rfl t_a0 ?_
      refine vv_bipush 183 (v := 77) dX1_weigh_181 rfl (by decide) ?_
      refine vv_aload_n 184 dX1_weigh_183 rfl rfl ?_
      refine gf_RX1_62 187 dX1_weigh_184 rfl t_a0 ?_
      refine vv_isub 188 dX1_weigh_187 rfl ?_
      refine vv_aload_n 189 dX1_weigh_188 rfl rfl ?_
      refine gf_RX1_65 192 dX1_weigh_189 rfl t_a0 ?_
      refine vv_isub 193 dX1_weigh_192 rfl ?_
      refine vv_iadd 194 dX1_weigh_193 rfl ?_
      obtain ⟨m21, e_m21, hf⟩ := bd_s hf
      refine pf_RX1_75 197 dX1_weigh_194 rfl t_a0 e_m21 ?_
      obtain rfl := Option.some.inj hf
      exact vv_vret dX1_weigh_197 rfl
    · rw [if_neg c19] at hf
      refine vv_aload_n 141 dX1_weigh_140 rfl rfl ?_
      refine vv_bipush 143 (v := 6) dX1_weigh_141 rfl (by decide) ?_
      obtain ⟨m22, e_m22, hf⟩ := bd_s hf
      refine pf_RX1_78 146 dX1_weigh_143 rfl t_a0 e_m22 ?_
      refine vv_aload_n 147 dX1_weigh_146 rfl rfl ?_
      refine vv_dup 148 dX1_weigh_147 rfl rfl ?_
      refine gf_RX1_75 151 dX1_weigh_148 rfl t_a0 ?_
      refine vv_bipush 153 (v := 66) dX1_weigh_151 rfl (by decide) ?_
      refine vv_aload_n 154 dX1_weigh_153 rfl rfl ?_
      refine gf_RX1_9 157 dX1_weigh_154 rfl t_a0 ?_
      refine vv_isub 158 dX1_weigh_157 rfl ?_
      refine vv_aload_n 159 dX1_weigh_158 rfl rfl ?_
      refine gf_RX1_25 162 dX1_weigh_159 rfl t_a0 ?_
      refine vv_isub 163 dX1_weigh_162 rfl ?_
      refine vv_iadd 164 dX1_weigh_163 rfl ?_
      obtain ⟨m23, e_m23, hf⟩ := bd_s hf
      refine pf_RX1_75 167 dX1_weigh_164 rfl t_a0 e_m23 ?_
      refine vv_goto 197 dX1_weigh_167 (by decide) ?_
      obtain rfl := Option.some.inj hf
      exact vv_vret dX1_weigh_197 rfl

theorem c_X1_weigh {w : Wo} {K : Kn} {a0 : Nat} {x1 : Int32} {x2 : Int64} {q : Mem} {m : Mem} (t_a0 : K a0 = some (.inl 1)) (hf : F_X1_weigh K m a0 x1 x2 = some q) : MM w K K yX1_weigh cX1_weigh 6 none rm_X1_weigh [.ref a0, .int x1, .long x2] m none q 0 0 :=
  mm_of (ini := false) (n := 2) (plainFor_of_name (by decide)) rfl (fun h => by first | rfl | cases h) (Nat.le_of_ble_eq_true rfl) rfl (v_X1_weigh_0 t_a0 hf)

set_option maxHeartbeats 4000000 in
theorem v_X0_openBytes_0 {w : Wo} {K : Kn} {x0 : Int32} {q : Int32} {m : Mem} (hf : f_X0_openBytes x0 = some q) : VV w RX0 cX0_openBytes 1 (some .int) rm_X0_openBytes false (QM w K (some (.int q)) m 0 0) K 0 [some (.int x0)] [] 0 0 m := by
  unfold f_X0_openBytes at hf
  refine vv_bipush 2 (v := 14) dX0_openBytes_0 rfl (by decide) ?_
  refine vv_iload_n 3 dX0_openBytes_2 rfl rfl ?_
  refine vv_bipush 5 (v := 7) dX0_openBytes_3 rfl (by decide) ?_
  refine vv_iadd 6 dX0_openBytes_5 rfl ?_
  refine vv_bipush 8 (v := 8) dX0_openBytes_6 rfl (by decide) ?_
  refine vv_idiv 9 dX0_openBytes_8 rfl (by decide) ?_
  refine vv_iadd 10 dX0_openBytes_9 rfl ?_
  obtain rfl := Option.some.inj hf
  exact vv_iret dX0_openBytes_10 rfl

theorem c_X0_openBytes {w : Wo} {K : Kn} {x0 : Int32} {q : Int32} {m : Mem} (hf : F_X0_openBytes x0 = some q) : MM w K K yX0_openBytes cX0_openBytes 1 (some .int) rm_X0_openBytes [.int x0] m (some (.int q)) m 0 0 :=
  mm_of (ini := false) (n := 0) (plainFor_of_name (by decide)) rfl (fun h => by first | rfl | cases h) (Nat.le_of_ble_eq_true rfl) rfl (v_X0_openBytes_0 hf)

set_option maxHeartbeats 4000000 in
theorem v_X0_sealedBytes_0 {w : Wo} {K : Kn} {x0 : Int32} {q : Int32} {m : Mem} (hf : f_X0_sealedBytes x0 = some q) : VV w RX0 cX0_sealedBytes 1 (some .int) rm_X0_sealedBytes false (QM w K (some (.int q)) m 0 0) K 0 [some (.int x0)] [] 0 0 m := by
  unfold f_X0_sealedBytes at hf
  refine vv_iload_n 1 dX0_sealedBytes_0 rfl rfl ?_
  obtain ⟨q1, g_q1, hf⟩ := bind_s hf
  refine vv_callS 4 (st := []) (As := [.int x0]) (stk2 := [.int q1]) (cl2 := 0) (sl2 := 0) dX0_sealedBytes_1 rfl lk_RX0_19 w_522 ⟨(Nat.le_of_ble_eq_true rfl), (Nat.le_of_ble_eq_true rfl)⟩ rfl rfl ⟨(Nat.le_of_ble_eq_true rfl), (Nat.le_of_ble_eq_true rfl)⟩ rfl (Nat.le_of_ble_eq_true rfl) rfl rfl rfl rfl (c_X0_openBytes g_q1) ?_
  refine vv_iconst 5 (v := 1) dX0_sealedBytes_4 rfl (by decide) ?_
  refine vv_iadd 6 dX0_sealedBytes_5 rfl ?_
  obtain rfl := Option.some.inj hf
  exact vv_iret dX0_sealedBytes_6 rfl

theorem c_X0_sealedBytes {w : Wo} {K : Kn} {x0 : Int32} {q : Int32} {m : Mem} (hf : F_X0_sealedBytes x0 = some q) : MM w K K yX0_sealedBytes cX0_sealedBytes 1 (some .int) rm_X0_sealedBytes [.int x0] m (some (.int q)) m 0 0 :=
  mm_of (ini := false) (n := 0) (plainFor_of_name (by decide)) rfl (fun h => by first | rfl | cases h) (Nat.le_of_ble_eq_true rfl) rfl (v_X0_sealedBytes_0 hf)

set_option maxHeartbeats 4000000 in
theorem v_X7_fits_0 {w : Wo} {K : Kn} {a0 : Nat} {x1 : Int32} {x2 : Int64} {q : (Int32 × Mem)} (t_a0 : K a0 = some (.inl 6)) {m : Mem} (hf : f_X7_fits K a0 x1 x2 m = some q) : VV w RX7 cX7_fits 5 (some .boolean) rm_X7_fits false (QM w K (some (.int q.1)) q.2 0 0) K 0 [some (.ref a0), some (.int x1), some (.long x2), none, none] [] 0 0 m := by
  unfold f_X7_fits at hf
  refine vv_aload_n 1 dX7_fits_0 rfl rfl ?_
  obtain ⟨q1, g_q1, hf⟩ := bind_s hf
  refine vv_callV 4 (st := []) (As := []) (stk2 := [va_rf q1]) (cl2 := 0) (sl2 := 0) dX7_fits_1 rfl lk_RX7_62 w_484 w_485 rfl t_a0 ⟨(Nat.le_of_ble_eq_true rfl), (Nat.le_of_ble_eq_true rfl)⟩ rfl rfl ⟨(Nat.le_of_ble_eq_true rfl), (Nat.le_of_ble_eq_true rfl)⟩ rfl (Nat.le_of_ble_eq_true rfl) rfl rfl rfl rfl (c_X7_openBlock t_a0 g_q1) ?_
  rcases caseO_s hf with ⟨ho, hf⟩ | ⟨b2, ho, hf⟩
  · subst ho
    refine vv_astoreN 6 (L' := [some (.ref a0), some (.int x1), some (.long x2), none, some (.null)]) dX7_fits_4 rfl (Nat.le_of_ble_eq_true rfl) rfl ?_
    refine vv_aloadN 8 dX7_fits_6 rfl rfl ?_
    refine vv_ifnonnullN 11 dX7_fits_8 rfl ?_
    refine vv_iconst 12 (v := 0) dX7_fits_11 rfl (by decide) ?_
    obtain rfl := Option.some.inj hf
    exact vv_zret dX7_fits_12 rfl (Or.inl rfl)
  · subst ho
    obtain ⟨t_b2, hf⟩ := gd_s hf
    refine vv_astore 6 (L' := [some (.ref a0), some (.int x1), some (.long x2), none, some (.ref b2)]) dX7_fits_4 rfl (Nat.le_of_ble_eq_true rfl) rfl ?_
    refine vv_aload 8 dX7_fits_6 rfl rfl ?_
    refine vv_ifnonnull 13 dX7_fits_8 (by decide) ?_
    refine vv_aload_n 14 dX7_fits_13 rfl rfl ?_
    obtain ⟨b3, g_b3, hf⟩ := bind_s hf
    have t_b3 := (ldO_spec g_b3).2
    refine gf_RX7_29 17 dX7_fits_14 rfl t_a0 (ldO_spec g_b3).1 ?_
    refine vv_iload_n 18 dX7_fits_17 rfl rfl ?_
    refine vv_lload_n 19 dX7_fits_18 rfl rfl ?_
    obtain ⟨q4, g_q4, hf⟩ := bind_s hf
    refine vv_callV 22 (st := []) (As := [.int x1, .long x2]) (stk2 := []) (cl2 := 0) (sl2 := 0) dX7_fits_19 rfl lk_RX7_66 w_488 w_489 rfl t_b3 ⟨(Nat.le_of_ble_eq_true rfl), (Nat.le_of_ble_eq_true rfl)⟩ rfl rfl ⟨(Nat.le_of_ble_eq_true rfl), (Nat.le_of_ble_eq_true rfl)⟩ rfl (Nat.le_of_ble_eq_true rfl) rfl rfl rfl rfl (c_X1_weigh t_b3 g_q4) ?_
    refine vv_aload 24 dX7_fits_22 rfl rfl ?_
    refine gf_RX7_70 27 dX7_fits_24 rfl t_b2 ?_
    refine vv_aload_n 28 dX7_fits_27 rfl rfl ?_
    obtain ⟨b5, g_b5, hf⟩ := bind_s hf
    have t_b5 := (ldO_spec g_b5).2
    refine gf_RX7_29 31 dX7_fits_28 rfl t_a0 (ldO_spec g_b5).1 ?_
    refine gf_RX7_73 34 dX7_fits_31 rfl t_b5 ?_
    refine vv_iadd 35 dX7_fits_34 rfl ?_
    obtain ⟨q6, g_q6, hf⟩ := bind_s hf
    refine vv_callS 38 (st := []) (As := [.int ((gI q4 b2 2) + (gI q4 b5 10))]) (stk2 := [.int q6]) (cl2 := 0) (sl2 := 0) dX7_fits_35 rfl lk_RX7_76 w_519 ⟨(Nat.le_of_ble_eq_true rfl), (Nat.le_of_ble_eq_true rfl)⟩ rfl rfl ⟨(Nat.le_of_ble_eq_true rfl), (Nat.le_of_ble_eq_true rfl)⟩ rfl (Nat.le_of_ble_eq_true rfl) rfl rfl rfl rfl (c_X0_sealedBytes g_q6) ?_
    refine vv_aload_n 39 dX7_fits_38 rfl rfl ?_
    refine gf_RX7_42 42 dX7_fits_39 rfl t_a0 ?_
    refine vv_icmp_gt 49 45 dX7_fits_42 rfl (by decide) (fun c7 => ?_) (fun c7 => ?_)
    · rw [if_pos c7] at hf
      refine vv_iconst 50 (v := 0) dX7_fits_49 rfl (by decide) ?_
      obtain rfl := Option.some.inj hf
      exact vv_zret dX7_fits_50 rfl (Or.inl rfl)
    · rw [if_neg c7] at hf
      refine vv_iconst 46 (v := 1) dX7_fits_45 rfl (by decide) ?_
      refine vv_goto 50 dX7_fits_46 (by decide) ?_
      obtain rfl := Option.some.inj hf
      exact vv_zret dX7_fits_50 rfl (Or.inr rfl)

theorem c_X7_fits {w : Wo} {K : Kn} {a0 : Nat} {x1 : Int32} {x2 : Int64} {q : (Int32 × Mem)} {m : Mem} (t_a0 : K a0 = some (.inl 6)) (hf : F_X7_fits K m a0 x1 x2 = some q) : MM w K K yX7_fits cX7_fits 5 (some .boolean) rm_X7_fits [.ref a0, .int x1, .long x2] m (some (.int q.1)) q.2 0 0 :=
  mm_of (ini := false) (n := 1) (plainFor_of_name (by decide)) rfl (fun h => by first | rfl | cases h) (Nat.le_of_ble_eq_true rfl) rfl (v_X7_fits_0 t_a0 hf)

set_option maxHeartbeats 4000000 in
theorem v_X0_writeBits_91 {w : Wo} {K : Kn} {a0 : Nat} {x1 : Int64} {x3 : Int32} {q : Mem} (t_a0 : K a0 = some (.inl 0)) (k3 : Mem → Int32 → Option Mem) (hk3 : ∀ (m : Mem) (x4 : Int32), k3 m x4 = some q → VV w RX0 cX0_writeBits 10 none rm_X0_writeBits false (QM w K none q 0 0) K 3 [some (.ref a0), some (.long x1), none, none, some (.int x4), none, none, none, none, none] [] 0 0 m) {m : Mem} {x4 : Int32} {x5 : Int32} {x6 : Int32} {x7 : Int32} {x8 : Int32} {s0 : Int32} (hf : f_X0_writeBits_91 K a0 x1 x3 k3 m x4 x5 x6 x7 x8 s0 = some q) : VV w RX0 cX0_writeBits 10 none rm_X0_writeBits false (QM w K none q 0 0) K 91 [some (.ref a0), some (.long x1), none, none, some (.int x4), some (.int x5), some (.int x6), some (.int x7), some (.int x8), none] [.int s0] 0 0 m := by
  unfold f_X0_writeBits_91 at hf
  refine vv_istore 93 (L' := [some (.ref a0), some (.long x1), none, none, some (.int x4), some (.int x5), some (.int x6), some (.int x7), some (.int x8), some (.int s0)]) dX0_writeBits_91 rfl (Nat.le_of_ble_eq_true rfl) rfl ?_
  refine vv_aload_n 94 dX0_writeBits_93 rfl rfl ?_
  obtain ⟨b1, g_b1, hf⟩ := bind_s hf
  have t_b1 := (ldA_spec g_b1).2
  refine gf_RX0_9 97 dX0_writeBits_94 rfl t_a0 (ldA_spec g_b1).1 ?_
  refine vv_iload 99 dX0_writeBits_97 rfl rfl ?_
  refine vv_iload 101 dX0_writeBits_99 rfl rfl ?_
  refine vv_iload 103 dX0_writeBits_101 rfl rfl ?_
  refine vv_iload 105 dX0_writeBits_103 rfl rfl ?_
  refine vv_iload 107 dX0_writeBits_105 rfl rfl ?_
  refine vv_isub 108 dX0_writeBits_107 rfl ?_
  refine vv_ishl 109 dX0_writeBits_108 rfl ?_
  refine vv_ior 110 dX0_writeBits_109 rfl ?_
  obtain ⟨m2, g_m2, hf⟩ := bind_s hf
  refine vv_iast 111 dX0_writeBits_110 rfl t_b1 g_m2 ?_
  refine vv_aload_n 112 dX0_writeBits_111 rfl rfl ?_
  refine vv_dup 113 dX0_writeBits_112 rfl rfl ?_
  refine gf_RX0_30 116 dX0_writeBits_113 rfl t_a0 ?_
  refine vv_iload 118 dX0_writeBits_116 rfl rfl ?_
  refine vv_iadd 119 dX0_writeBits_118 rfl ?_
  obtain ⟨m3, e_m3, hf⟩ := bd_s hf
  refine pf_RX0_30 122 dX0_writeBits_119 rfl t_a0 e_m3 ?_
  refine vv_iload 124 dX0_writeBits_122 rfl rfl ?_
  refine vv_iload 126 dX0_writeBits_124 rfl rfl ?_
  refine vv_isub 127 dX0_writeBits_126 rfl ?_
  obtain ⟨z4, e_z4, hf⟩ := bd_s hf
  refine vv_istoreE (q := 129) (v := z4) (L' := [some (.ref a0), some (.long x1), none, none, some (.int z4), some (.int x5), some (.int x6), some (.int x7), some (.int x8), some (.int s0)]) e_z4 dX0_writeBits_127 rfl (Nat.le_of_ble_eq_true rfl) rfl ?_
  refine vv_goto 3 dX0_writeBits_129 (by decide) ?_
  exact VV.lle (hk3 _ _ hf) (lle_s (lle_s (lle_s (lle_s (lle_s (lle_n (lle_n (lle_n (lle_n (lle_n lle_nil))))))))))

set_option maxHeartbeats 4000000 in
theorem v_X0_writeBits_45 {w : Wo} {K : Kn} {a0 : Nat} {x1 : Int64} {x3 : Int32} {q : Mem} (t_a0 : K a0 = some (.inl 0)) (k3 : Mem → Int32 → Option Mem) (hk3 : ∀ (m : Mem) (x4 : Int32), k3 m x4 = some q → VV w RX0 cX0_writeBits 10 none rm_X0_writeBits false (QM w K none q 0 0) K 3 [some (.ref a0), some (.long x1), none, none, some (.int x4), none, none, none, none, none] [] 0 0 m) {m : Mem} {x4 : Int32} {x5 : Int32} {x6 : Int32} {s0 : Int32} (hf : f_X0_writeBits_45 K a0 x1 x3 k3 m x4 x5 x6 s0 = some q) : VV w RX0 cX0_writeBits 10 none rm_X0_writeBits false (QM w K none q 0 0) K 45 [some (.ref a0), some (.long x1), none, none, some (.int x4), some (.int x5), some (.int x6), none, none, none] [.int s0] 0 0 m := by
  unfold f_X0_writeBits_45 at hf
  refine vv_istore 47 (L' := [some (.ref a0), some (.long x1), none, none, some (.int x4), some (.int x5), some (.int x6), some (.int s0), none, none]) dX0_writeBits_45 rfl (Nat.le_of_ble_eq_true rfl) rfl ?_
  refine vv_iload 49 dX0_writeBits_47 rfl rfl ?_
  refine vv_sipush 52 (v := 200) dX0_writeBits_49 rfl (by decide) ?_
  refine vv_icmp_lt 56 55 dX0_writeBits_52 rfl (by decide) (fun c1 => ?_) (fun c1 => ?_)
  · rw [if_pos c1] at hf
    refine vv_lload_n 57 dX0_writeBits_56 rfl rfl ?_
    refine vv_iload 59 dX0_writeBits_57 rfl rfl ?_
    refine vv_iload 61 dX0_writeBits_59 rfl rfl ?_
    refine vv_isub 62 dX0_writeBits_61 rfl ?_
    refine vv_lushr 63 dX0_writeBits_62 rfl ?_
    refine vv_l2i 64 dX0_writeBits_63 rfl ?_
    refine vv_iconst 65 (v := 1) dX0_writeBits_64 rfl (by decide) ?_
    refine vv_iload 67 dX0_writeBits_65 rfl rfl ?_
    refine vv_ishl 68 dX0_writeBits_67 rfl ?_
    refine vv_iconst 69 (v := 1) dX0_writeBits_68 rfl (by decide) ?_
    refine vv_isub 70 dX0_writeBits_69 rfl ?_
    refine vv_iand 71 dX0_writeBits_70 rfl ?_
    obtain ⟨z2, e_z2, hf⟩ := bd_s hf
    refine vv_istoreE (q := 73) (v := z2) (L' := [some (.ref a0), some (.long x1), none, none, some (.int x4), some (.int x5), some (.int x6), some (.int s0), some (.int z2), none]) e_z2 dX0_writeBits_71 rfl (Nat.le_of_ble_eq_true rfl) rfl ?_
    refine vv_iload 75 dX0_writeBits_73 rfl rfl ?_
    refine vv_bipush 77 (v := 8) dX0_writeBits_75 rfl (by decide) ?_
    refine vv_icmp_ne 84 80 dX0_writeBits_77 rfl (by decide) (fun c3 => ?_) (fun c3 => ?_)
    · rw [if_pos c3] at hf
      refine vv_iconst 81 (v := 0) dX0_writeBits_80 rfl (by decide) ?_
      refine vv_goto 91 dX0_writeBits_81 (by decide) ?_
      exact v_X0_writeBits_91 t_a0 k3 hk3 hf
    · rw [if_neg c3] at hf
      refine vv_aload_n 85 dX0_writeBits_84 rfl rfl ?_
      obtain ⟨b4, g_b4, hf⟩ := bind_s hf
      have t_b4 := (ldA_spec g_b4).2
      refine gf_RX0_9 88 dX0_writeBits_85 rfl t_a0 (ldA_spec g_b4).1 ?_
      refine vv_iload 90 dX0_writeBits_88 rfl rfl ?_
      obtain ⟨r5, g_r5, hf⟩ := bind_s hf
      refine vv_iald 91 dX0_writeBits_90 rfl t_b4 g_r5 ?_
      exact v_X0_writeBits_91 t_a0 k3 hk3 hf
  · rw [if_neg c1] at hf
    obtain rfl := Option.some.inj hf
    exact vv_vret dX0_writeBits_55 rfl

set_option maxHeartbeats 4000000 in
theorem v_X0_writeBits_3B {w : Wo} {K : Kn} {a0 : Nat} {x1 : Int64} {x3 : Int32} {q : Mem} (t_a0 : K a0 = some (.inl 0)) (k3 : Mem → Int32 → Option Mem) (hk3 : ∀ (m : Mem) (x4 : Int32), k3 m x4 = some q → VV w RX0 cX0_writeBits 10 none rm_X0_writeBits false (QM w K none q 0 0) K 3 [some (.ref a0), some (.long x1), none, none, some (.int x4), none, none, none, none, none] [] 0 0 m) {m : Mem} {x4 : Int32} (hf : f_X0_writeBits_3B K a0 x1 x3 k3 m x4 = some q) : VV w RX0 cX0_writeBits 10 none rm_X0_writeBits false (QM w K none q 0 0) K 3 [some (.ref a0), some (.long x1), none, none, some (.int x4), none, none, none, none, none] [] 0 0 m := by
  unfold f_X0_writeBits_3B at hf
  refine vv_iload 5 dX0_writeBits_3 rfl rfl ?_
  refine vv_if_le 132 8 dX0_writeBits_5 rfl (by decide) (fun c1 => ?_) (fun c1 => ?_)
  · rw [if_pos c1] at hf
    obtain rfl := Option.some.inj hf
    exact vv_vret dX0_writeBits_132 rfl
  · rw [if_neg c1] at hf
    refine vv_bipush 10 (v := 14) dX0_writeBits_8 rfl (by decide) ?_
    refine vv_aload_n 11 dX0_writeBits_10 rfl rfl ?_
    refine gf_RX0_30 14 dX0_writeBits_11 rfl t_a0 ?_
    refine vv_iconst 15 (v := 3) dX0_writeBits_14 rfl (by decide) ?_
    refine vv_ishr 16 dX0_writeBits_15 rfl ?_
    refine vv_iadd 17 dX0_writeBits_16 rfl ?_
    obtain ⟨z2, e_z2, hf⟩ := bd_s hf
    refine vv_istoreE (q := 19) (v := z2) (L' := [some (.ref a0), some (.long x1), none, none, some (.int x4), some (.int z2), none, none, none, none]) e_z2 dX0_writeBits_17 rfl (Nat.le_of_ble_eq_true rfl) rfl ?_
    refine vv_bipush 21 (v := 8) dX0_writeBits_19 rfl (by decide) ?_
    refine vv_aload_n 22 dX0_writeBits_21 rfl rfl ?_
    refine gf_RX0_30 25 dX0_writeBits_22 rfl t_a0 ?_
    refine vv_bipush 27 (v := 7) dX0_writeBits_25 rfl (by decide) ?_
    refine vv_iand 28 dX0_writeBits_27 rfl ?_
    refine vv_isub 29 dX0_writeBits_28 rfl ?_
    obtain ⟨z3, e_z3, hf⟩ := bd_s hf
    refine vv_istoreE (q := 31) (v := z3) (L' := [some (.ref a0), some (.long x1), none, none, some (.int x4), some (.int z2), some (.int z3), none, none, none]) e_z3 dX0_writeBits_29 rfl (Nat.le_of_ble_eq_true rfl) rfl ?_
    refine vv_iload 33 dX0_writeBits_31 rfl rfl ?_
    refine vv_iload 35 dX0_writeBits_33 rfl rfl ?_
    refine vv_icmp_ge 43 38 dX0_writeBits_35 rfl (by decide) (fun c4 => ?_) (fun c4 => ?_)
    · rw [if_pos c4] at hf
      refine vv_iload 45 dX0_writeBits_43 rfl rfl ?_
      exact v_X0_writeBits_45 t_a0 k3 hk3 hf
    · rw [if_neg c4] at hf
      refine vv_iload 40 dX0_writeBits_38 rfl rfl ?_
      refine vv_goto 45 dX0_writeBits_40 (by decide) ?_
      exact v_X0_writeBits_45 t_a0 k3 hk3 hf

theorem v_X0_writeBits_3 {w : Wo} {K : Kn} {a0 : Nat} {x1 : Int64} {x3 : Int32} {q : Mem} (t_a0 : K a0 = some (.inl 0)) : ∀ (n : Nat) (m : Mem) (x4 : Int32), f_X0_writeBits_3 K a0 x1 x3 n m x4 = some q → VV w RX0 cX0_writeBits 10 none rm_X0_writeBits false (QM w K none q 0 0) K 3 [some (.ref a0), some (.long x1), none, none, some (.int x4), none, none, none, none, none] [] 0 0 m := by
  intro n
  induction n with
  | zero => intro m x4 hf; cases hf
  | succ n ih => intro m x4 hf; exact v_X0_writeBits_3B (a0 := a0) (x1 := x1) (x3 := x3) t_a0 (f_X0_writeBits_3 K a0 x1 x3 n) ih hf

set_option maxHeartbeats 4000000 in
theorem v_X0_writeBits_0 {w : Wo} {K : Kn} {a0 : Nat} {x1 : Int64} {x3 : Int32} {q : Mem} (t_a0 : K a0 = some (.inl 0)) {m : Mem} (hf : f_X0_writeBits K a0 x1 x3 m = some q) : VV w RX0 cX0_writeBits 10 none rm_X0_writeBits false (QM w K none q 0 0) K 0 [some (.ref a0), some (.long x1), none, some (.int x3), none, none, none, none, none, none] [] 0 0 m := by
  unfold f_X0_writeBits at hf
  refine vv_iload_n 1 dX0_writeBits_0 rfl rfl ?_
  refine vv_istore 3 (L' := [some (.ref a0), some (.long x1), none, some (.int x3), some (.int x3), none, none, none, none, none]) dX0_writeBits_1 rfl (Nat.le_of_ble_eq_true rfl) rfl ?_
  exact VV.lle (v_X0_writeBits_3 t_a0 FU _ _ hf) (lle_s (lle_s (lle_s (lle_n (lle_s (lle_s (lle_s (lle_s (lle_s (lle_s lle_nil))))))))))

theorem c_X0_writeBits {w : Wo} {K : Kn} {a0 : Nat} {x1 : Int64} {x3 : Int32} {q : Mem} {m : Mem} (t_a0 : K a0 = some (.inl 0)) (hf : F_X0_writeBits K m a0 x1 x3 = some q) : MM w K K yX0_writeBits cX0_writeBits 10 none rm_X0_writeBits [.ref a0, .long x1, .int x3] m none q 0 0 :=
  mm_of (ini := false) (n := 6) (plainFor_of_name (by decide)) rfl (fun h => by first | rfl | cases h) (Nat.le_of_ble_eq_true rfl) rfl (v_X0_writeBits_0 t_a0 hf)

set_option maxHeartbeats 4000000 in
theorem v_X0_write_155 {w : Wo} {K : Kn} {a0 : Nat} {a1 : Nat} {q : Mem} (t_a0 : K a0 = some (.inl 0)) (t_a1 : K a1 = some (.inl 1)) {m : Mem} (hf : f_X0_write_155 K a0 a1 m = some q) : VV w RX0 cX0_write 3 none rm_X0_write false (QM w K none q 0 0) K 155 [some (.ref a0), some (.ref a1), none] [] 0 0 m := by
  unfold f_X0_write_155 at hf
  refine vv_aload_n 156 dX0_write_155 rfl rfl ?_
  refine vv_dup 157 dX0_write_156 rfl rfl ?_
  refine gf_RX0_33 160 dX0_write_157 rfl t_a0 ?_
  refine vv_iconst 161 (v := 1) dX0_write_160 rfl (by decide) ?_
  refine vv_iadd 162 dX0_write_161 rfl ?_
  obtain ⟨m1, e_m1, hf⟩ := bd_s hf
  refine pf_RX0_33 165 dX0_write_162 rfl t_a0 e_m1 ?_
  refine vv_aload_n 166 dX0_write_165 rfl rfl ?_
  obtain ⟨b2, g_b2, hf⟩ := bind_s hf
  have t_b2 := (ldA_spec g_b2).2
  refine gf_RX0_9 169 dX0_write_166 rfl t_a0 (ldA_spec g_b2).1 ?_
  refine vv_bipush 171 (v := 12) dX0_write_169 rfl (by decide) ?_
  refine vv_aload_n 172 dX0_write_171 rfl rfl ?_
  refine gf_RX0_33 175 dX0_write_172 rfl t_a0 ?_
  refine vv_bipush 177 (v := 8) dX0_write_175 rfl (by decide) ?_
  refine vv_ishr 178 dX0_write_177 rfl ?_
  obtain ⟨m3, g_m3, hf⟩ := bind_s hf
  refine vv_iast 179 dX0_write_178 rfl t_b2 g_m3 ?_
  refine vv_aload_n 180 dX0_write_179 rfl rfl ?_
  obtain ⟨b4, g_b4, hf⟩ := bind_s hf
  have t_b4 := (ldA_spec g_b4).2
  refine gf_RX0_9 183 dX0_write_180 rfl t_a0 (ldA_spec g_b4).1 ?_
  refine vv_bipush 185 (v := 13) dX0_write_183 rfl (by decide) ?_
  refine vv_aload_n 186 dX0_write_185 rfl rfl ?_
  refine gf_RX0_33 189 dX0_write_186 rfl t_a0 ?_
  refine vv_sipush 192 (v := 255) dX0_write_189 rfl (by decide) ?_
  refine vv_iand 193 dX0_write_192 rfl ?_
  obtain ⟨m5, g_m5, hf⟩ := bind_s hf
  refine vv_iast 194 dX0_write_193 rfl t_b4 g_m5 ?_
  refine vv_aload_n 195 dX0_write_194 rfl rfl ?_
  refine vv_aload_n 196 dX0_write_195 rfl rfl ?_
  refine gf_RX0_93 199 dX0_write_196 rfl t_a1 ?_
  obtain ⟨m6, e_m6, hf⟩ := bd_s hf
  refine pf_RX0_39 202 dX0_write_199 rfl t_a0 e_m6 ?_
  refine vv_aload_n 203 dX0_write_202 rfl rfl ?_
  refine vv_aload_n 204 dX0_write_203 rfl rfl ?_
  refine gf_RX0_30 207 dX0_write_204 rfl t_a0 ?_
  obtain ⟨q7, g_q7, hf⟩ := bind_s hf
  refine vv_callS 210 (st := [.ref a0]) (As := [.int (gI m6 a0 2)]) (stk2 := [.int q7, .ref a0]) (cl2 := 0) (sl2 := 0) dX0_write_207 rfl lk_RX0_19 w_522 ⟨(Nat.le_of_ble_eq_true rfl), (Nat.le_of_ble_eq_true rfl)⟩ rfl rfl ⟨(Nat.le_of_ble_eq_true rfl), (Nat.le_of_ble_eq_true rfl)⟩ rfl (Nat.le_of_ble_eq_true rfl) rfl rfl rfl rfl (c_X0_openBytes g_q7) ?_
  obtain ⟨m8, e_m8, hf⟩ := bd_s hf
  refine pf_RX0_23 213 dX0_write_210 rfl t_a0 e_m8 ?_
  obtain rfl := Option.some.inj hf
  exact vv_vret dX0_write_213 rfl

set_option maxHeartbeats 4000000 in
theorem v_X0_write_0 {w : Wo} {K : Kn} {a0 : Nat} {a1 : Nat} {q : Mem} (t_a0 : K a0 = some (.inl 0)) (t_a1 : K a1 = some (.inl 1)) {m : Mem} (hf : f_X0_write K a0 a1 m = some q) : VV w RX0 cX0_write 3 none rm_X0_write false (QM w K none q 0 0) K 0 [some (.ref a0), some (.ref a1), none] [] 0 0 m := by
  unfold f_X0_write at hf
  refine vv_aload_n 1 dX0_write_0 rfl rfl ?_
  refine vv_gets 4 0 dX0_write_1 rfl (by decide) (by decide) ?_
  refine vv_aload_n 5 dX0_write_4 rfl rfl ?_
  refine gf_RX0_52 8 dX0_write_5 rfl t_a1 ?_
  obtain ⟨r1, g_r1, hf⟩ := bind_s hf
  refine vv_sald 9 0 dX0_write_8 rfl (by decide) g_r1 ?_
  refine vv_i2l 10 dX0_write_9 rfl ?_
  refine vv_gets 13 1 dX0_write_10 rfl (by decide) (by decide) ?_
  refine vv_aload_n 14 dX0_write_13 rfl rfl ?_
  refine gf_RX0_52 17 dX0_write_14 rfl t_a1 ?_
  obtain ⟨r2, g_r2, hf⟩ := bind_s hf
  refine vv_sald 18 1 dX0_write_17 rfl (by decide) g_r2 ?_
  obtain ⟨q3, g_q3, hf⟩ := bind_s hf
  refine vv_callV 21 (st := []) (As := [.long ((r1).toInt64), .int r2]) (stk2 := []) (cl2 := 0) (sl2 := 0) dX0_write_18 rfl lk_RX0_60 w_533 w_2 rfl t_a0 ⟨(Nat.le_of_ble_eq_true rfl), (Nat.le_of_ble_eq_true rfl)⟩ rfl rfl ⟨(Nat.le_of_ble_eq_true rfl), (Nat.le_of_ble_eq_true rfl)⟩ rfl (Nat.le_of_ble_eq_true rfl) rfl rfl rfl rfl (c_X0_writeBits t_a0 g_q3) ?_
  refine vv_aload_n 22 dX0_write_21 rfl rfl ?_
  refine vv_aload_n 23 dX0_write_22 rfl rfl ?_
  refine gf_RX0_64 26 dX0_write_23 rfl t_a1 ?_
  refine vv_i2l 27 dX0_write_26 rfl ?_
  refine vv_gets 30 2 dX0_write_27 rfl (by decide) (by decide) ?_
  refine vv_aload_n 31 dX0_write_30 rfl rfl ?_
  refine gf_RX0_52 34 dX0_write_31 rfl t_a1 ?_
  obtain ⟨r4, g_r4, hf⟩ := bind_s hf
  refine vv_sald 35 2 dX0_write_34 rfl (by decide) g_r4 ?_
  obtain ⟨q5, g_q5, hf⟩ := bind_s hf
  refine vv_callV 38 (st := []) (As := [.long ((gI q3 a1 7).toInt64), .int r4]) (stk2 := []) (cl2 := 0) (sl2 := 0) dX0_write_35 rfl lk_RX0_60 w_533 w_2 rfl t_a0 ⟨(Nat.le_of_ble_eq_true rfl), (Nat.le_of_ble_eq_true rfl)⟩ rfl rfl ⟨(Nat.le_of_ble_eq_true rfl), (Nat.le_of_ble_eq_true rfl)⟩ rfl (Nat.le_of_ble_eq_true rfl) rfl rfl rfl rfl (c_X0_writeBits t_a0 g_q5) ?_
  refine vv_aload_n 39 dX0_write_38 rfl rfl ?_
  refine gf_RX0_70 42 dX0_write_39 rfl t_a1 ?_
  refine vv_iconst 43 (v := 5) dX0_write_42 rfl (by decide) ?_
  refine vv_icmp_ne 55 46 dX0_write_43 rfl (by decide) (fun c6 => ?_) (fun c6 => ?_)
  · rw [if_pos c6] at hf
    refine vv_aload_n 47 dX0_write_46 rfl rfl ?_
    refine vv_lconst 48 (v := 0) dX0_write_47 rfl (by decide) ?_
    refine vv_iconst 49 (v := 1) dX0_write_48 rfl (by decide) ?_
    obtain ⟨q7, g_q7, hf⟩ := bind_s hf
    refine vv_callV 52 (st := []) (As := [.long (0 : Int64), .int (1 : Int32)]) (stk2 := []) (cl2 := 0) (sl2 := 0) dX0_write_49 rfl lk_RX0_60 w_533 w_2 rfl t_a0 ⟨(Nat.le_of_ble_eq_true rfl), (Nat.le_of_ble_eq_true rfl)⟩ rfl rfl ⟨(Nat.le_of_ble_eq_true rfl), (Nat.le_of_ble_eq_true rfl)⟩ rfl (Nat.le_of_ble_eq_true rfl) rfl rfl rfl rfl (c_X0_writeBits t_a0 g_q7) ?_
    refine vv_goto 155 dX0_write_52 (by decide) ?_
    exact v_X0_write_155 t_a0 t_a1 hf
  · rw [if_neg c6] at hf
    refine vv_aload_n 56 dX0_write_55 rfl rfl ?_
    refine gf_RX0_70 59 dX0_write_56 rfl t_a1 ?_
    refine vv_bipush 61 (v := 6) dX0_write_59 rfl (by decide) ?_
    refine vv_icmp_ne 100 64 dX0_write_61 rfl (by decide) (fun c8 => ?_) (fun c8 => ?_)
    · rw [if_pos c8] at hf
      refine vv_aload_n 65 dX0_write_64 rfl rfl ?_
      refine vv_ldc2 68 (v := 2) dX0_write_65 rfl w_536 ?_
      refine vv_iconst 69 (v := 2) dX0_write_68 rfl (by decide) ?_
      obtain ⟨q9, g_q9, hf⟩ := bind_s hf
      refine vv_callV 72 (st := []) (As := [.long (2 : Int64), .int (2 : Int32)]) (stk2 := []) (cl2 := 0) (sl2 := 0) dX0_write_69 rfl lk_RX0_60 w_533 w_2 rfl t_a0 ⟨(Nat.le_of_ble_eq_true rfl), (Nat.le_of_ble_eq_true rfl)⟩ rfl rfl ⟨(Nat.le_of_ble_eq_true rfl), (Nat.le_of_ble_eq_true rfl)⟩ rfl (Nat.le_of_ble_eq_true rfl) rfl rfl rfl rfl (c_X0_writeBits t_a0 g_q9) ?_
      refine vv_aload_n 73 dX0_write_72 rfl rfl ?_
      refine vv_aload_n 74 dX0_write_73 rfl rfl ?_
      refine gf_RX0_75 77 dX0_write_74 rfl t_a1 ?_
      refine vv_aload_n 78 dX0_write_77 rfl rfl ?_
      refine gf_RX0_79 81 dX0_write_78 rfl t_a1 ?_
      refine vv_lushr 82 dX0_write_81 rfl ?_
      refine vv_bipush 84 (v := 64) dX0_write_82 rfl (by decide) ?_
      refine vv_aload_n 85 dX0_write_84 rfl rfl ?_
      refine gf_RX0_82 88 dX0_write_85 rfl t_a1 ?_
      refine vv_isub 89 dX0_write_88 rfl ?_
      refine vv_aload_n 90 dX0_write_89 rfl rfl ?_
      refine gf_RX0_79 93 dX0_write_90 rfl t_a1 ?_
      refine vv_isub 94 dX0_write_93 rfl ?_
      obtain ⟨q10, g_q10, hf⟩ := bind_s hf
      refine vv_callV 97 (st := []) (As := [.long (lushr (gJ q9 a1 11) (gI q9 a1 4)), .int (((64 : Int32) - (gI q9 a1 3)) - (gI q9 a1 4))]) (stk2 := []) (cl2 := 0) (sl2 := 0) dX0_write_94 rfl lk_RX0_60 w_533 w_2 rfl t_a0 ⟨(Nat.le_of_ble_eq_true rfl), (Nat.le_of_ble_eq_true rfl)⟩ rfl rfl ⟨(Nat.le_of_ble_eq_true rfl), (Nat.le_of_ble_eq_true rfl)⟩ rfl (Nat.le_of_ble_eq_true rfl) rfl rfl rfl rfl (c_X0_writeBits t_a0 g_q10) ?_
      refine vv_goto 155 dX0_write_97 (by decide) ?_
      exact v_X0_write_155 t_a0 t_a1 hf
    · rw [if_neg c8] at hf
      refine vv_bipush 102 (v := 64) dX0_write_100 rfl (by decide) ?_
      refine vv_aload_n 103 dX0_write_102 rfl rfl ?_
      refine gf_RX0_85 106 dX0_write_103 rfl t_a1 ?_
      refine vv_isub 107 dX0_write_106 rfl ?_
      refine vv_aload_n 108 dX0_write_107 rfl rfl ?_
      refine gf_RX0_88 111 dX0_write_108 rfl t_a1 ?_
      refine vv_isub 112 dX0_write_111 rfl ?_
      obtain ⟨z11, e_z11, hf⟩ := bd_s hf
      refine vv_istore_nE (q := 113) (v := z11) (L' := [some (.ref a0), some (.ref a1), some (.int z11)]) e_z11 dX0_write_112 rfl (Nat.le_of_ble_eq_true rfl) rfl ?_
      refine vv_aload_n 114 dX0_write_113 rfl rfl ?_
      refine vv_ldc2 117 (v := 3) dX0_write_114 rfl w_537 ?_
      refine vv_iconst 118 (v := 2) dX0_write_117 rfl (by decide) ?_
      obtain ⟨q12, g_q12, hf⟩ := bind_s hf
      refine vv_callV 121 (st := []) (As := [.long (3 : Int64), .int (2 : Int32)]) (stk2 := []) (cl2 := 0) (sl2 := 0) dX0_write_118 rfl lk_RX0_60 w_533 w_2 rfl t_a0 ⟨(Nat.le_of_ble_eq_true rfl), (Nat.le_of_ble_eq_true rfl)⟩ rfl rfl ⟨(Nat.le_of_ble_eq_true rfl), (Nat.le_of_ble_eq_true rfl)⟩ rfl (Nat.le_of_ble_eq_true rfl) rfl rfl rfl rfl (c_X0_writeBits t_a0 g_q12) ?_
      refine vv_aload_n 122 dX0_write_121 rfl rfl ?_
      refine vv_aload_n 123 dX0_write_122 rfl rfl ?_
      refine gf_RX0_85 126 dX0_write_123 rfl t_a1 ?_
      refine vv_i2l 127 dX0_write_126 rfl ?_
      refine vv_iconst 128 (v := 5) dX0_write_127 rfl (by decide) ?_
      obtain ⟨q13, g_q13, hf⟩ := bind_s hf
      refine vv_callV 131 (st := []) (As := [.long ((gI q12 a1 12).toInt64), .int (5 : Int32)]) (stk2 := []) (cl2 := 0) (sl2 := 0) dX0_write_128 rfl lk_RX0_60 w_533 w_2 rfl t_a0 ⟨(Nat.le_of_ble_eq_true rfl), (Nat.le_of_ble_eq_true rfl)⟩ rfl rfl ⟨(Nat.le_of_ble_eq_true rfl), (Nat.le_of_ble_eq_true rfl)⟩ rfl (Nat.le_of_ble_eq_true rfl) rfl rfl rfl rfl (c_X0_writeBits t_a0 g_q13) ?_
      refine vv_aload_n 132 dX0_write_131 rfl rfl ?_
      refine vv_iload_n 133 dX0_write_132 rfl rfl ?_
      refine vv_iconst 134 (v := 1) dX0_write_133 rfl (by decide) ?_
      refine vv_isub 135 dX0_write_134 rfl ?_
      refine vv_i2l 136 dX0_write_135 rfl ?_
      refine vv_bipush 138 (v := 6) dX0_write_136 rfl (by decide) ?_
      obtain ⟨q14, g_q14, hf⟩ := bind_s hf
      refine vv_callV 141 (st := []) (As := [.long ((z11 - (1 : Int32)).toInt64), .int (6 : Int32)]) (stk2 := []) (cl2 := 0) (sl2 := 0) dX0_write_138 rfl lk_RX0_60 w_533 w_2 rfl t_a0 ⟨(Nat.le_of_ble_eq_true rfl), (Nat.le_of_ble_eq_true rfl)⟩ rfl rfl ⟨(Nat.le_of_ble_eq_true rfl), (Nat.le_of_ble_eq_true rfl)⟩ rfl (Nat.le_of_ble_eq_true rfl) rfl rfl rfl rfl (c_X0_writeBits t_a0 g_q14) ?_
      refine vv_aload_n 142 dX0_write_141 rfl rfl ?_
      refine vv_aload_n 143 dX0_write_142 rfl rfl ?_
      refine gf_RX0_75 146 dX0_write_143 rfl t_a1 ?_
      refine vv_aload_n 147 dX0_write_146 rfl rfl ?_
      refine gf_RX0_88 150 dX0_write_147 rfl t_a1 ?_
      refine vv_lushr 151 dX0_write_150 rfl ?_
      refine vv_iload_n 152 dX0_write_151 rfl rfl ?_
      obtain ⟨q15, g_q15, hf⟩ := bind_s hf
      refine vv_callV 155 (st := []) (As := [.long (lushr (gJ q14 a1 11) (gI q14 a1 13)), .int z11]) (stk2 := []) (cl2 := 0) (sl2 := 0) dX0_write_152 rfl lk_RX0_60 w_533 w_2 rfl t_a0 ⟨(Nat.le_of_ble_eq_true rfl), (Nat.le_of_ble_eq_true rfl)⟩ rfl rfl ⟨(Nat.le_of_ble_eq_true rfl), (Nat.le_of_ble_eq_true rfl)⟩ rfl (Nat.le_of_ble_eq_true rfl) rfl rfl rfl rfl (c_X0_writeBits t_a0 g_q15) ?_
      exact VV.lle (v_X0_write_155 t_a0 t_a1 hf) (lle_s (lle_s (lle_n lle_nil)))

theorem c_X0_write {w : Wo} {K : Kn} {a0 : Nat} {a1 : Nat} {q : Mem} {m : Mem} (t_a0 : K a0 = some (.inl 0)) (t_a1 : K a1 = some (.inl 1)) (hf : F_X0_write K m a0 a1 = some q) : MM w K K yX0_write cX0_write 3 none rm_X0_write [.ref a0, .ref a1] m none q 0 0 :=
  mm_of (ini := false) (n := 1) (plainFor_of_name (by decide)) rfl (fun h => by first | rfl | cases h) (Nat.le_of_ble_eq_true rfl) rfl (v_X0_write_0 t_a0 t_a1 hf)

set_option maxHeartbeats 4000000 in
theorem v_X1_step_0 {w : Wo} {K : Kn} {a0 : Nat} {q : Mem} (t_a0 : K a0 = some (.inl 1)) {m : Mem} (hf : f_X1_step K a0 m = some q) : VV w RX1 cX1_step 1 none rm_X1_step false (QM w K none q 0 0) K 0 [some (.ref a0)] [] 0 0 m := by
  unfold f_X1_step at hf
  refine vv_aload_n 1 dX1_step_0 rfl rfl ?_
  refine vv_aload_n 2 dX1_step_1 rfl rfl ?_
  refine gf_RX1_28 5 dX1_step_2 rfl t_a0 ?_
  refine vv_aload_n 6 dX1_step_5 rfl rfl ?_
  refine gf_RX1_15 9 dX1_step_6 rfl t_a0 ?_
  refine vv_isub 10 dX1_step_9 rfl ?_
  obtain ⟨m1, e_m1, hf⟩ := bd_s hf
  refine pf_RX1_22 13 dX1_step_10 rfl t_a0 e_m1 ?_
  refine vv_aload_n 14 dX1_step_13 rfl rfl ?_
  refine vv_aload_n 15 dX1_step_14 rfl rfl ?_
  refine gf_RX1_28 18 dX1_step_15 rfl t_a0 ?_
  obtain ⟨m2, e_m2, hf⟩ := bd_s hf
  refine pf_RX1_15 21 dX1_step_18 rfl t_a0 e_m2 ?_
  refine vv_aload_n 22 dX1_step_21 rfl rfl ?_
  refine vv_aload_n 23 dX1_step_22 rfl rfl ?_
  refine gf_RX1_31 26 dX1_step_23 rfl t_a0 ?_
  obtain ⟨m3, e_m3, hf⟩ := bd_s hf
  refine pf_RX1_18 29 dX1_step_26 rfl t_a0 e_m3 ?_
  refine vv_aload_n 30 dX1_step_29 rfl rfl ?_
  refine gf_RX1_78 33 dX1_step_30 rfl t_a0 ?_
  refine vv_bipush 35 (v := 7) dX1_step_33 rfl (by decide) ?_
  refine vv_icmp_ne 54 38 dX1_step_35 rfl (by decide) (fun c4 => ?_) (fun c4 => ?_)
  · rw [if_pos c4] at hf
    refine vv_aload_n 39 dX1_step_38 rfl rfl ?_
    refine vv_aload_n 40 dX1_step_39 rfl rfl ?_
    refine gf_RX1_62 43 dX1_step_40 rfl t_a0 ?_
    obtain ⟨m5, e_m5, hf⟩ := bd_s hf
    refine pf_RX1_9 46 dX1_step_43 rfl t_a0 e_m5 ?_
    refine vv_aload_n 47 dX1_step_46 rfl rfl ?_
    refine vv_aload_n 48 dX1_step_47 rfl rfl ?_
    refine gf_RX1_65 51 dX1_step_48 rfl t_a0 ?_
    obtain ⟨m6, e_m6, hf⟩ := bd_s hf
    refine pf_RX1_25 54 dX1_step_51 rfl t_a0 e_m6 ?_
    obtain rfl := Option.some.inj hf
    exact vv_vret dX1_step_54 rfl
  · rw [if_neg c4] at hf
    obtain rfl := Option.some.inj hf
    exact vv_vret dX1_step_54 rfl

theorem c_X1_step {w : Wo} {K : Kn} {a0 : Nat} {q : Mem} {m : Mem} (t_a0 : K a0 = some (.inl 1)) (hf : F_X1_step K m a0 = some q) : MM w K K yX1_step cX1_step 1 none rm_X1_step [.ref a0] m none q 0 0 :=
  mm_of (ini := false) (n := 0) (plainFor_of_name (by decide)) rfl (fun h => by first | rfl | cases h) (Nat.le_of_ble_eq_true rfl) rfl (v_X1_step_0 t_a0 hf)

set_option maxHeartbeats 4000000 in
theorem v_X0_checkOf_5B {w : Wo} {K : Kn} {a0 : Nat} {x1 : Int32} {q : Int32} {m : Mem} (t_a0 : K a0 = some (.inl 0)) (k5 : Int32 → Int32 → Option Int32) (hk5 : ∀ (x2 : Int32) (x3 : Int32), k5 x2 x3 = some q → VV w RX0 cX0_checkOf 4 (some .int) rm_X0_checkOf false (QM w K (some (.int q)) m 0 0) K 5 [some (.ref a0), some (.int x1), some (.int x2), some (.int x3)] [] 0 0 m) {x2 : Int32} {x3 : Int32} (hf : f_X0_checkOf_5B K m a0 x1 k5 x2 x3 = some q) : VV w RX0 cX0_checkOf 4 (some .int) rm_X0_checkOf false (QM w K (some (.int q)) m 0 0) K 5 [some (.ref a0), some (.int x1), some (.int x2), some (.int x3)] [] 0 0 m := by
  unfold f_X0_checkOf_5B at hf
  refine vv_iload_n 6 dX0_checkOf_5 rfl rfl ?_
  refine vv_iload_n 7 dX0_checkOf_6 rfl rfl ?_
  refine vv_icmp_ge 32 10 dX0_checkOf_7 rfl (by decide) (fun c1 => ?_) (fun c1 => ?_)
  · rw [if_pos c1] at hf
    refine vv_iload_n 33 dX0_checkOf_32 rfl rfl ?_
    obtain rfl := Option.some.inj hf
    exact vv_iret dX0_checkOf_33 rfl
  · rw [if_neg c1] at hf
    refine vv_iload_n 11 dX0_checkOf_10 rfl rfl ?_
    refine vv_bipush 13 (v := 31) dX0_checkOf_11 rfl (by decide) ?_
    refine vv_imul 14 dX0_checkOf_13 rfl ?_
    refine vv_aload_n 15 dX0_checkOf_14 rfl rfl ?_
    obtain ⟨b2, g_b2, hf⟩ := bind_s hf
    have t_b2 := (ldA_spec g_b2).2
    refine gf_RX0_9 18 dX0_checkOf_15 rfl t_a0 (ldA_spec g_b2).1 ?_
    refine vv_iload_n 19 dX0_checkOf_18 rfl rfl ?_
    obtain ⟨r3, g_r3, hf⟩ := bind_s hf
    refine vv_iald 20 dX0_checkOf_19 rfl t_b2 g_r3 ?_
    refine vv_iadd 21 dX0_checkOf_20 rfl ?_
    refine vv_sipush 24 (v := 251) dX0_checkOf_21 rfl (by decide) ?_
    refine vv_irem 25 dX0_checkOf_24 rfl (by decide) ?_
    obtain ⟨z4, e_z4, hf⟩ := bd_s hf
    refine vv_istore_nE (q := 26) (v := z4) (L' := [some (.ref a0), some (.int x1), some (.int z4), some (.int x3)]) e_z4 dX0_checkOf_25 rfl (Nat.le_of_ble_eq_true rfl) rfl ?_
    obtain ⟨z5, e_z5, hf⟩ := bd_s hf
    refine vv_iincE (q := 29) (v := z5) (c := 1) (L' := [some (.ref a0), some (.int x1), some (.int z4), some (.int z5)]) e_z5 dX0_checkOf_26 rfl rfl (by decide) (Nat.le_of_ble_eq_true rfl) rfl ?_
    refine vv_goto 5 dX0_checkOf_29 (by decide) ?_
    exact hk5 _ _ hf

theorem v_X0_checkOf_5 {w : Wo} {K : Kn} {a0 : Nat} {x1 : Int32} {q : Int32} {m : Mem} (t_a0 : K a0 = some (.inl 0)) : ∀ (n : Nat) (x2 : Int32) (x3 : Int32), f_X0_checkOf_5 K m a0 x1 n x2 x3 = some q → VV w RX0 cX0_checkOf 4 (some .int) rm_X0_checkOf false (QM w K (some (.int q)) m 0 0) K 5 [some (.ref a0), some (.int x1), some (.int x2), some (.int x3)] [] 0 0 m := by
  intro n
  induction n with
  | zero => intro x2 x3 hf; cases hf
  | succ n ih => intro x2 x3 hf; exact v_X0_checkOf_5B (a0 := a0) (x1 := x1) t_a0 (f_X0_checkOf_5 K m a0 x1 n) ih hf

set_option maxHeartbeats 4000000 in
theorem v_X0_checkOf_0 {w : Wo} {K : Kn} {a0 : Nat} {x1 : Int32} {q : Int32} {m : Mem} (t_a0 : K a0 = some (.inl 0)) (hf : f_X0_checkOf K m a0 x1 = some q) : VV w RX0 cX0_checkOf 4 (some .int) rm_X0_checkOf false (QM w K (some (.int q)) m 0 0) K 0 [some (.ref a0), some (.int x1), none, none] [] 0 0 m := by
  unfold f_X0_checkOf at hf
  refine vv_bipush 2 (v := 7) dX0_checkOf_0 rfl (by decide) ?_
  refine vv_istore_n 3 (L' := [some (.ref a0), some (.int x1), some (.int (7 : Int32)), none]) dX0_checkOf_2 rfl (Nat.le_of_ble_eq_true rfl) rfl ?_
  refine vv_iconst 4 (v := 0) dX0_checkOf_3 rfl (by decide) ?_
  refine vv_istore_n 5 (L' := [some (.ref a0), some (.int x1), some (.int (7 : Int32)), some (.int (0 : Int32))]) dX0_checkOf_4 rfl (Nat.le_of_ble_eq_true rfl) rfl ?_
  exact v_X0_checkOf_5 t_a0 FU _ _ hf

theorem c_X0_checkOf {w : Wo} {K : Kn} {a0 : Nat} {x1 : Int32} {q : Int32} {m : Mem} (t_a0 : K a0 = some (.inl 0)) (hf : F_X0_checkOf K m a0 x1 = some q) : MM w K K yX0_checkOf cX0_checkOf 4 (some .int) rm_X0_checkOf [.ref a0, .int x1] m (some (.int q)) m 0 0 :=
  mm_of (ini := false) (n := 2) (plainFor_of_name (by decide)) rfl (fun h => by first | rfl | cases h) (Nat.le_of_ble_eq_true rfl) rfl (v_X0_checkOf_0 t_a0 hf)

set_option maxHeartbeats 4000000 in
theorem v_X0_close_37 {w : Wo} {K : Kn} {a0 : Nat} {q : Mem} (t_a0 : K a0 = some (.inl 0)) {m : Mem} (hf : f_X0_close_37 K a0 m = some q) : VV w RX0 cX0_close 1 none rm_X0_close false (QM w K none q 0 0) K 37 [some (.ref a0)] [] 0 0 m := by
  unfold f_X0_close_37 at hf
  refine vv_aload_n 38 dX0_close_37 rfl rfl ?_
  refine vv_iconst 39 (v := 1) dX0_close_38 rfl (by decide) ?_
  obtain ⟨m1, e_m1, hf⟩ := bd_s hf
  refine pf_RX0_42 42 dX0_close_39 rfl t_a0 (by decide) e_m1 ?_
  obtain rfl := Option.some.inj hf
  exact vv_vret dX0_close_42 rfl

set_option maxHeartbeats 4000000 in
theorem v_X0_close_0 {w : Wo} {K : Kn} {a0 : Nat} {q : Mem} (t_a0 : K a0 = some (.inl 0)) {m : Mem} (hf : f_X0_close K a0 m = some q) : VV w RX0 cX0_close 1 none rm_X0_close false (QM w K none q 0 0) K 0 [some (.ref a0)] [] 0 0 m := by
  unfold f_X0_close at hf
  refine vv_aload_n 1 dX0_close_0 rfl rfl ?_
  refine gf_RX0_23 4 dX0_close_1 rfl t_a0 ?_
  refine vv_sipush 7 (v := 200) dX0_close_4 rfl (by decide) ?_
  refine vv_icmp_ge 37 10 dX0_close_7 rfl (by decide) (fun c1 => ?_) (fun c1 => ?_)
  · rw [if_pos c1] at hf
    exact v_X0_close_37 t_a0 hf
  · rw [if_neg c1] at hf
    refine vv_aload_n 11 dX0_close_10 rfl rfl ?_
    obtain ⟨b2, g_b2, hf⟩ := bind_s hf
    have t_b2 := (ldA_spec g_b2).2
    refine gf_RX0_9 14 dX0_close_11 rfl t_a0 (ldA_spec g_b2).1 ?_
    refine vv_aload_n 15 dX0_close_14 rfl rfl ?_
    refine gf_RX0_23 18 dX0_close_15 rfl t_a0 ?_
    refine vv_aload_n 19 dX0_close_18 rfl rfl ?_
    refine vv_aload_n 20 dX0_close_19 rfl rfl ?_
    refine gf_RX0_23 23 dX0_close_20 rfl t_a0 ?_
    obtain ⟨q3, g_q3, hf⟩ := bind_s hf
    refine vv_callV 26 (st := [.int (gI m a0 1), .ref b2]) (As := [.int (gI m a0 1)]) (stk2 := [.int q3, .int (gI m a0 1), .ref b2]) (cl2 := 0) (sl2 := 0) dX0_close_23 rfl lk_RX0_96 w_551 w_552 rfl t_a0 ⟨(Nat.le_of_ble_eq_true rfl), (Nat.le_of_ble_eq_true rfl)⟩ rfl rfl ⟨(Nat.le_of_ble_eq_true rfl), (Nat.le_of_ble_eq_true rfl)⟩ rfl (Nat.le_of_ble_eq_true rfl) rfl rfl rfl rfl (c_X0_checkOf t_a0 g_q3) ?_
    obtain ⟨m4, g_m4, hf⟩ := bind_s hf
    refine vv_iast 27 dX0_close_26 rfl t_b2 g_m4 ?_
    refine vv_aload_n 28 dX0_close_27 rfl rfl ?_
    refine vv_dup 29 dX0_close_28 rfl rfl ?_
    refine gf_RX0_23 32 dX0_close_29 rfl t_a0 ?_
    refine vv_iconst 33 (v := 1) dX0_close_32 rfl (by decide) ?_
    refine vv_iadd 34 dX0_close_33 rfl ?_
    obtain ⟨m5, e_m5, hf⟩ := bd_s hf
    refine pf_RX0_23 37 dX0_close_34 rfl t_a0 e_m5 ?_
    exact v_X0_close_37 t_a0 hf

theorem c_X0_close {w : Wo} {K : Kn} {a0 : Nat} {q : Mem} {m : Mem} (t_a0 : K a0 = some (.inl 0)) (hf : F_X0_close K m a0 = some q) : MM w K K yX0_close cX0_close 1 none rm_X0_close [.ref a0] m none q 0 0 :=
  mm_of (ini := false) (n := 0) (plainFor_of_name (by decide)) rfl (fun h => by first | rfl | cases h) (Nat.le_of_ble_eq_true rfl) rfl (v_X0_close_0 t_a0 hf)

set_option maxHeartbeats 4000000 in
theorem v_X7_closeOpen_0 {w : Wo} {K : Kn} {a0 : Nat} {q : Mem} (t_a0 : K a0 = some (.inl 6)) {m : Mem} (hf : f_X7_closeOpen K a0 m = some q) : VV w RX7 cX7_closeOpen 2 none rm_X7_closeOpen false (QM w K none q 0 0) K 0 [some (.ref a0), none] [] 0 0 m := by
  unfold f_X7_closeOpen at hf
  refine vv_aload_n 1 dX7_closeOpen_0 rfl rfl ?_
  obtain ⟨q1, g_q1, hf⟩ := bind_s hf
  refine vv_callV 4 (st := []) (As := []) (stk2 := [va_rf q1]) (cl2 := 0) (sl2 := 0) dX7_closeOpen_1 rfl lk_RX7_62 w_484 w_485 rfl t_a0 ⟨(Nat.le_of_ble_eq_true rfl), (Nat.le_of_ble_eq_true rfl)⟩ rfl rfl ⟨(Nat.le_of_ble_eq_true rfl), (Nat.le_of_ble_eq_true rfl)⟩ rfl (Nat.le_of_ble_eq_true rfl) rfl rfl rfl rfl (c_X7_openBlock t_a0 g_q1) ?_
  rcases caseO_s hf with ⟨ho, hf⟩ | ⟨b2, ho, hf⟩
  · subst ho
    refine vv_astore_nN 5 (L' := [some (.ref a0), some (.null)]) dX7_closeOpen_4 rfl (Nat.le_of_ble_eq_true rfl) rfl ?_
    refine vv_aload_nN 6 dX7_closeOpen_5 rfl rfl ?_
    refine vv_ifnullN 13 dX7_closeOpen_6 (by decide) ?_
    obtain rfl := Option.some.inj hf
    exact vv_vret dX7_closeOpen_13 rfl
  · subst ho
    obtain ⟨t_b2, hf⟩ := gd_s hf
    refine vv_astore_n 5 (L' := [some (.ref a0), some (.ref b2)]) dX7_closeOpen_4 rfl (Nat.le_of_ble_eq_true rfl) rfl ?_
    refine vv_aload_n 6 dX7_closeOpen_5 rfl rfl ?_
    refine vv_ifnull 9 dX7_closeOpen_6 rfl ?_
    refine vv_aload_n 10 dX7_closeOpen_9 rfl rfl ?_
    obtain ⟨q3, g_q3, hf⟩ := bind_s hf
    refine vv_callV 13 (st := []) (As := []) (stk2 := []) (cl2 := 0) (sl2 := 0) dX7_closeOpen_10 rfl lk_RX7_98 w_547 w_548 rfl t_b2 ⟨(Nat.le_of_ble_eq_true rfl), (Nat.le_of_ble_eq_true rfl)⟩ rfl rfl ⟨(Nat.le_of_ble_eq_true rfl), (Nat.le_of_ble_eq_true rfl)⟩ rfl (Nat.le_of_ble_eq_true rfl) rfl rfl rfl rfl (c_X0_close t_b2 g_q3) ?_
    obtain rfl := Option.some.inj hf
    exact vv_vret dX7_closeOpen_13 rfl

theorem c_X7_closeOpen {w : Wo} {K : Kn} {a0 : Nat} {q : Mem} {m : Mem} (t_a0 : K a0 = some (.inl 6)) (hf : F_X7_closeOpen K m a0 = some q) : MM w K K yX7_closeOpen cX7_closeOpen 2 none rm_X7_closeOpen [.ref a0] m none q 0 0 :=
  mm_of (ini := false) (n := 1) (plainFor_of_name (by decide)) rfl (fun h => by first | rfl | cases h) (Nat.le_of_ble_eq_true rfl) rfl (v_X7_closeOpen_0 t_a0 hf)

set_option maxHeartbeats 4000000 in
theorem v_X0_append_3B {w : Wo} {K : Kn} {a0 : Nat} {x1 : Int32} {q : Mem} (t_a0 : K a0 = some (.inl 0)) (k3 : Mem → Int32 → Option Mem) (hk3 : ∀ (m : Mem) (x2 : Int32), k3 m x2 = some q → VV w RX0 cX0_append 3 none rm_X0_append false (QM w K none q 0 0) K 3 [some (.ref a0), some (.int x1), some (.int x2)] [] 0 0 m) {m : Mem} {x2 : Int32} (hf : f_X0_append_3B K a0 x1 k3 m x2 = some q) : VV w RX0 cX0_append 3 none rm_X0_append false (QM w K none q 0 0) K 3 [some (.ref a0), some (.int x1), some (.int x2)] [] 0 0 m := by
  unfold f_X0_append_3B at hf
  refine vv_iload_n 4 dX0_append_3 rfl rfl ?_
  refine vv_if_lt 49 7 dX0_append_4 rfl (by decide) (fun c1 => ?_) (fun c1 => ?_)
  · rw [if_pos c1] at hf
    obtain rfl := Option.some.inj hf
    exact vv_vret dX0_append_49 rfl
  · rw [if_neg c1] at hf
    refine vv_aload_n 8 dX0_append_7 rfl rfl ?_
    refine gf_RX0_23 11 dX0_append_8 rfl t_a0 ?_
    refine vv_sipush 14 (v := 200) dX0_append_11 rfl (by decide) ?_
    refine vv_icmp_ge 49 17 dX0_append_14 rfl (by decide) (fun c2 => ?_) (fun c2 => ?_)
    · rw [if_pos c2] at hf
      obtain rfl := Option.some.inj hf
      exact vv_vret dX0_append_49 rfl
    · rw [if_neg c2] at hf
      refine vv_aload_n 18 dX0_append_17 rfl rfl ?_
      obtain ⟨b3, g_b3, hf⟩ := bind_s hf
      have t_b3 := (ldA_spec g_b3).2
      refine gf_RX0_9 21 dX0_append_18 rfl t_a0 (ldA_spec g_b3).1 ?_
      refine vv_aload_n 22 dX0_append_21 rfl rfl ?_
      refine gf_RX0_23 25 dX0_append_22 rfl t_a0 ?_
      refine vv_iload_n 26 dX0_append_25 rfl rfl ?_
      refine vv_iload_n 27 dX0_append_26 rfl rfl ?_
      refine vv_iushr 28 dX0_append_27 rfl ?_
      refine vv_sipush 31 (v := 255) dX0_append_28 rfl (by decide) ?_
      refine vv_iand 32 dX0_append_31 rfl ?_
      obtain ⟨m4, g_m4, hf⟩ := bind_s hf
      refine vv_iast 33 dX0_append_32 rfl t_b3 g_m4 ?_
      refine vv_aload_n 34 dX0_append_33 rfl rfl ?_
      refine vv_dup 35 dX0_append_34 rfl rfl ?_
      refine gf_RX0_23 38 dX0_append_35 rfl t_a0 ?_
      refine vv_iconst 39 (v := 1) dX0_append_38 rfl (by decide) ?_
      refine vv_iadd 40 dX0_append_39 rfl ?_
      obtain ⟨m5, e_m5, hf⟩ := bd_s hf
      refine pf_RX0_23 43 dX0_append_40 rfl t_a0 e_m5 ?_
      obtain ⟨z6, e_z6, hf⟩ := bd_s hf
      refine vv_iincE (q := 46) (v := z6) (c := (-8)) (L' := [some (.ref a0), some (.int x1), some (.int z6)]) e_z6 dX0_append_43 rfl rfl (by decide) (Nat.le_of_ble_eq_true rfl) rfl ?_
      refine vv_goto 3 dX0_append_46 (by decide) ?_
      exact hk3 _ _ hf

theorem v_X0_append_3 {w : Wo} {K : Kn} {a0 : Nat} {x1 : Int32} {q : Mem} (t_a0 : K a0 = some (.inl 0)) : ∀ (n : Nat) (m : Mem) (x2 : Int32), f_X0_append_3 K a0 x1 n m x2 = some q → VV w RX0 cX0_append 3 none rm_X0_append false (QM w K none q 0 0) K 3 [some (.ref a0), some (.int x1), some (.int x2)] [] 0 0 m := by
  intro n
  induction n with
  | zero => intro m x2 hf; cases hf
  | succ n ih => intro m x2 hf; exact v_X0_append_3B (a0 := a0) (x1 := x1) t_a0 (f_X0_append_3 K a0 x1 n) ih hf

set_option maxHeartbeats 4000000 in
theorem v_X0_append_0 {w : Wo} {K : Kn} {a0 : Nat} {x1 : Int32} {q : Mem} (t_a0 : K a0 = some (.inl 0)) {m : Mem} (hf : f_X0_append K a0 x1 m = some q) : VV w RX0 cX0_append 3 none rm_X0_append false (QM w K none q 0 0) K 0 [some (.ref a0), some (.int x1), none] [] 0 0 m := by
  unfold f_X0_append at hf
  refine vv_bipush 2 (v := 24) dX0_append_0 rfl (by decide) ?_
  refine vv_istore_n 3 (L' := [some (.ref a0), some (.int x1), some (.int (24 : Int32))]) dX0_append_2 rfl (Nat.le_of_ble_eq_true rfl) rfl ?_
  exact v_X0_append_3 t_a0 FU _ _ hf

theorem c_X0_append {w : Wo} {K : Kn} {a0 : Nat} {x1 : Int32} {q : Mem} {m : Mem} (t_a0 : K a0 = some (.inl 0)) (hf : F_X0_append K m a0 x1 = some q) : MM w K K yX0_append cX0_append 3 none rm_X0_append [.ref a0, .int x1] m none q 0 0 :=
  mm_of (ini := false) (n := 1) (plainFor_of_name (by decide)) rfl (fun h => by first | rfl | cases h) (Nat.le_of_ble_eq_true rfl) rfl (v_X0_append_0 t_a0 hf)
