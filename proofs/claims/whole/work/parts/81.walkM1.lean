/-! ===== the walks ===== -/
abbrev rm_X9_opens : Room := { frames := 6, cells := 0, slots := 0, locals := 147 }
abbrev rm_X9_signsOf : Room := { frames := 0, cells := 0, slots := 0, locals := 0 }
abbrev rm_X9_wideAnew : Room := { frames := 3, cells := 0, slots := 0, locals := 64 }
abbrev rm_X9_takesBits : Room := { frames := 4, cells := 0, slots := 0, locals := 85 }
abbrev rm_X9_puts : Room := { frames := 0, cells := 0, slots := 0, locals := 0 }
abbrev rm_X9_writes : Room := { frames := 4, cells := 0, slots := 0, locals := 85 }
abbrev rm_X9_seals0 : Room := { frames := 2, cells := 0, slots := 0, locals := 46 }
abbrev rm_X9_writesHead : Room := { frames := 1, cells := 0, slots := 0, locals := 24 }
abbrev rm_X9_comes : Room := { frames := 5, cells := 0, slots := 0, locals := 117 }
abbrev rm_X9_add : Room := { frames := 7, cells := 0, slots := 0, locals := 168 }
abbrev rm_X9_late : Room := { frames := 2, cells := 0, slots := 0, locals := 46 }
abbrev rm_X9_would : Room := { frames := 7, cells := 0, slots := 0, locals := 168 }
abbrev rm_X9_isBroken : Room := { frames := 6, cells := 0, slots := 0, locals := 147 }
abbrev rm_X9_hasBroken : Room := { frames := 7, cells := 0, slots := 0, locals := 168 }
abbrev rm_X9_firstNot : Room := { frames := 0, cells := 0, slots := 0, locals := 0 }
abbrev rm_X9_gathers : Room := { frames := 7, cells := 0, slots := 0, locals := 168 }
set_option maxHeartbeats 4000000 in
theorem v_X9_opens_0 {w : Wo} {K : Kn} {a0 : Nat} {x1 : Int32} {q : Mem} (t_a0 : K a0 = some (.inl 8)) {m : Mem} (hf : f_X9_opens K a0 x1 m = some q) : VV w RX9 cX9_opens 2 none rm_X9_opens false (QM w K none q 0 0) K 0 [some (.ref a0), some (.int x1)] [] 0 0 m := by
  unfold f_X9_opens at hf
  refine vv_aload_n 1 dX9_opens_0 rfl rfl ?_
  obtain ⟨b1, g_b1, hf⟩ := bind_s hf
  have t_b1 := (ldA_spec g_b1).2
  refine gf_RX9_16 4 dX9_opens_1 rfl t_a0 (ldA_spec g_b1).1 ?_
  refine vv_iload_n 5 dX9_opens_4 rfl rfl ?_
  obtain ⟨r2, g_r2, hf⟩ := bind_s hf
  refine vv_iald 6 dX9_opens_5 rfl t_b1 g_r2 ?_
  refine vv_if_le 47 9 dX9_opens_6 rfl (by decide) (fun c3 => ?_) (fun c3 => ?_)
  · rw [if_pos c3] at hf
    obtain rfl := Option.some.inj hf
    exact vv_vret dX9_opens_47 rfl
  · rw [if_neg c3] at hf
    refine vv_aload_n 10 dX9_opens_9 rfl rfl ?_
    obtain ⟨b4, g_b4, hf⟩ := bind_s hf
    have t_b4 := (ldA_spec g_b4).2
    refine gf_RX9_28 13 dX9_opens_10 rfl t_a0 (ldA_spec g_b4).1 ?_
    refine vv_bipush 15 (v := 16) dX9_opens_13 rfl (by decide) ?_
    refine vv_iload_n 16 dX9_opens_15 rfl rfl ?_
    refine vv_imul 17 dX9_opens_16 rfl ?_
    refine vv_aload_n 18 dX9_opens_17 rfl rfl ?_
    obtain ⟨b5, g_b5, hf⟩ := bind_s hf
    have t_b5 := (ldA_spec g_b5).2
    refine gf_RX9_16 21 dX9_opens_18 rfl t_a0 (ldA_spec g_b5).1 ?_
    refine vv_iload_n 22 dX9_opens_21 rfl rfl ?_
    obtain ⟨r6, g_r6, hf⟩ := bind_s hf
    refine vv_iald 23 dX9_opens_22 rfl t_b5 g_r6 ?_
    refine vv_iadd 24 dX9_opens_23 rfl ?_
    refine vv_iconst 25 (v := 1) dX9_opens_24 rfl (by decide) ?_
    refine vv_isub 26 dX9_opens_25 rfl ?_
    obtain ⟨r7, g_r7, hf⟩ := bind_s hf
    refine vv_zald 27 dX9_opens_26 rfl t_b4 g_r7 ?_
    refine vv_if_ne 47 30 dX9_opens_27 rfl (by decide) (fun c8 => ?_) (fun c8 => ?_)
    · rw [if_pos c8] at hf
      refine vv_aload_n 31 dX9_opens_30 rfl rfl ?_
      refine vv_bipush 33 (v := 16) dX9_opens_31 rfl (by decide) ?_
      refine vv_iload_n 34 dX9_opens_33 rfl rfl ?_
      refine vv_imul 35 dX9_opens_34 rfl ?_
      refine vv_aload_n 36 dX9_opens_35 rfl rfl ?_
      obtain ⟨b9, g_b9, hf⟩ := bind_s hf
      have t_b9 := (ldA_spec g_b9).2
      refine gf_RX9_16 39 dX9_opens_36 rfl t_a0 (ldA_spec g_b9).1 ?_
      refine vv_iload_n 40 dX9_opens_39 rfl rfl ?_
      obtain ⟨r10, g_r10, hf⟩ := bind_s hf
      refine vv_iald 41 dX9_opens_40 rfl t_b9 g_r10 ?_
      refine vv_iadd 42 dX9_opens_41 rfl ?_
      refine vv_iconst 43 (v := 1) dX9_opens_42 rfl (by decide) ?_
      refine vv_isub 44 dX9_opens_43 rfl ?_
      obtain ⟨q11, g_q11, hf⟩ := bind_s hf
      refine vv_callV 47 (st := []) (As := [.int ((((16 : Int32) * x1) + r10) - (1 : Int32))]) (stk2 := []) (cl2 := 0) (sl2 := 0) dX9_opens_44 rfl lk_RX9_242 w_1236 w_24 rfl t_a0 ⟨(Nat.le_of_ble_eq_true rfl), (Nat.le_of_ble_eq_true rfl)⟩ rfl rfl ⟨(Nat.le_of_ble_eq_true rfl), (Nat.le_of_ble_eq_true rfl)⟩ rfl (Nat.le_of_ble_eq_true rfl) rfl rfl rfl rfl (c_X9_reads t_a0 g_q11) ?_
      obtain rfl := Option.some.inj hf
      exact vv_vret dX9_opens_47 rfl
    · rw [if_neg c8] at hf
      obtain rfl := Option.some.inj hf
      exact vv_vret dX9_opens_47 rfl

theorem c_X9_opens {w : Wo} {K : Kn} {a0 : Nat} {x1 : Int32} {q : Mem} {m : Mem} (t_a0 : K a0 = some (.inl 8)) (hf : F_X9_opens K m a0 x1 = some q) : MM w K K yX9_opens cX9_opens 2 none rm_X9_opens [.ref a0, .int x1] m none q 0 0 :=
  mm_of (ini := false) (n := 0) (plainFor_of_name (by decide)) rfl (fun h => by first | rfl | cases h) (Nat.le_of_ble_eq_true rfl) rfl (v_X9_opens_0 t_a0 hf)

set_option maxHeartbeats 4000000 in
theorem v_X9_signsOf_0 {w : Wo} {K : Kn} {x0 : Int32} {q : Int32} {m : Mem} (hf : f_X9_signsOf x0 = some q) : VV w RX9 cX9_signsOf 1 (some .int) rm_X9_signsOf false (QM w K (some (.int q)) m 0 0) K 0 [some (.int x0)] [] 0 0 m := by
  unfold f_X9_signsOf at hf
  refine vv_iload_n 1 dX9_signsOf_0 rfl rfl ?_
  refine vv_if_ne 8 4 dX9_signsOf_1 rfl (by decide) (fun c1 => ?_) (fun c1 => ?_)
  · rw [if_pos c1] at hf
    refine vv_iconst 5 (v := 1) dX9_signsOf_4 rfl (by decide) ?_
    refine vv_goto 20 dX9_signsOf_5 (by decide) ?_
    obtain rfl := Option.some.inj hf
    exact vv_iret dX9_signsOf_20 rfl
  · rw [if_neg c1] at hf
    refine vv_iload_n 9 dX9_signsOf_8 rfl rfl ?_
    refine vv_iconst 10 (v := 4) dX9_signsOf_9 rfl (by decide) ?_
    refine vv_icmp_ne 17 13 dX9_signsOf_10 rfl (by decide) (fun c2 => ?_) (fun c2 => ?_)
    · rw [if_pos c2] at hf
      refine vv_iconst 14 (v := 4) dX9_signsOf_13 rfl (by decide) ?_
      refine vv_goto 20 dX9_signsOf_14 (by decide) ?_
      obtain rfl := Option.some.inj hf
      exact vv_iret dX9_signsOf_20 rfl
    · rw [if_neg c2] at hf
      refine vv_iload_n 18 dX9_signsOf_17 rfl rfl ?_
      refine vv_iconst 19 (v := 1) dX9_signsOf_18 rfl (by decide) ?_
      refine vv_iadd 20 dX9_signsOf_19 rfl ?_
      obtain rfl := Option.some.inj hf
      exact vv_iret dX9_signsOf_20 rfl

theorem c_X9_signsOf {w : Wo} {K : Kn} {x0 : Int32} {q : Int32} {m : Mem} (hf : F_X9_signsOf x0 = some q) : MM w K K yX9_signsOf cX9_signsOf 1 (some .int) rm_X9_signsOf [.int x0] m (some (.int q)) m 0 0 :=
  mm_of (ini := false) (n := 0) (plainFor_of_name (by decide)) rfl (fun h => by first | rfl | cases h) (Nat.le_of_ble_eq_true rfl) rfl (v_X9_signsOf_0 hf)

set_option maxHeartbeats 4000000 in
theorem v_X9_wideAnew_0 {w : Wo} {K : Kn} {x0 : Int64} {q : Int32} {m : Mem} (hf : f_X9_wideAnew x0 = some q) : VV w RX9 cX9_wideAnew 2 (some .int) rm_X9_wideAnew false (QM w K (some (.int q)) m 0 0) K 0 [some (.long x0), none] [] 0 0 m := by
  unfold f_X9_wideAnew at hf
  refine vv_bipush 2 (v := 64) dX9_wideAnew_0 rfl (by decide) ?_
  refine vv_lload_n 3 dX9_wideAnew_2 rfl rfl ?_
  obtain ⟨q1, g_q1, hf⟩ := bind_s hf
  refine vv_callS 6 (st := [.int (64 : Int32)]) (As := [.long x0]) (stk2 := [.int q1, .int (64 : Int32)]) (cl2 := 0) (sl2 := 0) dX9_wideAnew_3 rfl lk_RX9_146 w_1305 ⟨(Nat.le_of_ble_eq_true rfl), (Nat.le_of_ble_eq_true rfl)⟩ rfl rfl ⟨(Nat.le_of_ble_eq_true rfl), (Nat.le_of_ble_eq_true rfl)⟩ rfl (Nat.le_of_ble_eq_true rfl) rfl rfl rfl rfl (c_X9_aheadOf g_q1) ?_
  refine vv_isub 7 dX9_wideAnew_6 rfl ?_
  refine vv_lload_n 8 dX9_wideAnew_7 rfl rfl ?_
  obtain ⟨q2, g_q2, hf⟩ := bind_s hf
  refine vv_callS 11 (st := [.int ((64 : Int32) - q1)]) (As := [.long x0]) (stk2 := [.int q2, .int ((64 : Int32) - q1)]) (cl2 := 0) (sl2 := 0) dX9_wideAnew_8 rfl lk_RX9_127 w_502 ⟨(Nat.le_of_ble_eq_true rfl), (Nat.le_of_ble_eq_true rfl)⟩ rfl rfl ⟨(Nat.le_of_ble_eq_true rfl), (Nat.le_of_ble_eq_true rfl)⟩ rfl (Nat.le_of_ble_eq_true rfl) rfl rfl rfl rfl (c_J13_numberOfTrailingZeros_95d88 g_q2) ?_
  refine vv_isub 12 dX9_wideAnew_11 rfl ?_
  obtain rfl := Option.some.inj hf
  exact vv_iret dX9_wideAnew_12 rfl

theorem c_X9_wideAnew {w : Wo} {K : Kn} {x0 : Int64} {q : Int32} {m : Mem} (hf : F_X9_wideAnew x0 = some q) : MM w K K yX9_wideAnew cX9_wideAnew 2 (some .int) rm_X9_wideAnew [.long x0] m (some (.int q)) m 0 0 :=
  mm_of (ini := false) (n := 0) (plainFor_of_name (by decide)) rfl (fun h => by first | rfl | cases h) (Nat.le_of_ble_eq_true rfl) rfl (v_X9_wideAnew_0 hf)

set_option maxHeartbeats 4000000 in
theorem v_X9_takesBits_83 {w : Wo} {K : Kn} {a0 : Nat} {x1 : Int64} {x3 : Int64} {q : Int32} {m : Mem} (t_a0 : K a0 = some (.inl 8)) {s0 : Int32} {s1 : Int32} (hf : f_X9_takesBits_83 K m a0 x1 x3 s0 s1 = some q) : VV w RX9 cX9_takesBits 9 (some .int) rm_X9_takesBits false (QM w K (some (.int q)) m 0 0) K 83 [none, none, none, none, none, none, none, none, none] [.int s1, .int s0] 0 0 m := by
  unfold f_X9_takesBits_83 at hf
  refine vv_iadd 84 dX9_takesBits_83 rfl ?_
  obtain rfl := Option.some.inj hf
  exact vv_iret dX9_takesBits_84 rfl

set_option maxHeartbeats 4000000 in
theorem v_X9_takesBits_0 {w : Wo} {K : Kn} {a0 : Nat} {x1 : Int64} {x3 : Int64} {q : Int32} {m : Mem} (t_a0 : K a0 = some (.inl 8)) (hf : f_X9_takesBits K m a0 x1 x3 = some q) : VV w RX9 cX9_takesBits 9 (some .int) rm_X9_takesBits false (QM w K (some (.int q)) m 0 0) K 0 [some (.ref a0), some (.long x1), none, some (.long x3), none, none, none, none, none] [] 0 0 m := by
  unfold f_X9_takesBits at hf
  refine vv_lload_n 1 dX9_takesBits_0 rfl rfl ?_
  refine vv_aload_n 2 dX9_takesBits_1 rfl rfl ?_
  refine gf_RX9_149 5 dX9_takesBits_2 rfl t_a0 ?_
  refine vv_lsub 6 dX9_takesBits_5 rfl ?_
  refine vv_aload_n 7 dX9_takesBits_6 rfl rfl ?_
  refine gf_RX9_153 10 dX9_takesBits_7 rfl t_a0 ?_
  refine vv_lsub 11 dX9_takesBits_10 rfl ?_
  obtain ⟨q1, g_q1, hf⟩ := bind_s hf
  refine vv_callS 14 (st := []) (As := [.long ((x1 - (gJ m a0 14)) - (gJ m a0 15))]) (stk2 := [.int q1]) (cl2 := 0) (sl2 := 0) dX9_takesBits_11 rfl lk_RX9_156 w_1293 ⟨(Nat.le_of_ble_eq_true rfl), (Nat.le_of_ble_eq_true rfl)⟩ rfl rfl ⟨(Nat.le_of_ble_eq_true rfl), (Nat.le_of_ble_eq_true rfl)⟩ rfl (Nat.le_of_ble_eq_true rfl) rfl rfl rfl rfl (c_X9_classOf g_q1) ?_
  refine vv_istore 16 (L' := [some (.ref a0), some (.long x1), none, some (.long x3), none, some (.int q1), none, none, none]) dX9_takesBits_14 rfl (Nat.le_of_ble_eq_true rfl) rfl ?_
  refine vv_lload_n 17 dX9_takesBits_16 rfl rfl ?_
  refine vv_aload_n 18 dX9_takesBits_17 rfl rfl ?_
  refine gf_RX9_159 21 dX9_takesBits_18 rfl t_a0 ?_
  refine vv_lxor 22 dX9_takesBits_21 rfl ?_
  obtain ⟨z2, e_z2, hf⟩ := bd_s hf
  refine vv_lstoreE (q := 24) (v := z2) (L' := [some (.ref a0), some (.long x1), none, some (.long x3), none, some (.int q1), some (.long z2), none, none]) e_z2 dX9_takesBits_22 rfl (Nat.le_of_ble_eq_true rfl) rfl ?_
  refine vv_aload_n 25 dX9_takesBits_24 rfl rfl ?_
  refine vv_lload 27 dX9_takesBits_25 rfl rfl ?_
  obtain ⟨q3, g_q3, hf⟩ := bind_s hf
  refine vv_callV 30 (st := []) (As := [.long z2]) (stk2 := [.int q3]) (cl2 := 0) (sl2 := 0) dX9_takesBits_27 rfl lk_RX9_162 w_1300 w_36 rfl t_a0 ⟨(Nat.le_of_ble_eq_true rfl), (Nat.le_of_ble_eq_true rfl)⟩ rfl rfl ⟨(Nat.le_of_ble_eq_true rfl), (Nat.le_of_ble_eq_true rfl)⟩ rfl (Nat.le_of_ble_eq_true rfl) rfl rfl rfl rfl (c_X9_wayOf t_a0 g_q3) ?_
  refine vv_istore 32 (L' := [some (.ref a0), some (.long x1), none, some (.long x3), none, some (.int q1), some (.long z2), none, some (.int q3)]) dX9_takesBits_30 rfl (Nat.le_of_ble_eq_true rfl) rfl ?_
  refine vv_iload 34 dX9_takesBits_32 rfl rfl ?_
  obtain ⟨q4, g_q4, hf⟩ := bind_s hf
  refine vv_callS 37 (st := []) (As := [.int q1]) (stk2 := [.int q4]) (cl2 := 0) (sl2 := 0) dX9_takesBits_34 rfl lk_RX9_165 w_1317 ⟨(Nat.le_of_ble_eq_true rfl), (Nat.le_of_ble_eq_true rfl)⟩ rfl rfl ⟨(Nat.le_of_ble_eq_true rfl), (Nat.le_of_ble_eq_true rfl)⟩ rfl (Nat.le_of_ble_eq_true rfl) rfl rfl rfl rfl (c_X9_signsOf g_q4) ?_
  refine vv_iload 39 dX9_takesBits_37 rfl rfl ?_
  obtain ⟨q5, g_q5, hf⟩ := bind_s hf
  refine vv_callS 42 (st := [.int q4]) (As := [.int q1]) (stk2 := [.int q5, .int q4]) (cl2 := 0) (sl2 := 0) dX9_takesBits_39 rfl lk_RX9_169 w_1283 ⟨(Nat.le_of_ble_eq_true rfl), (Nat.le_of_ble_eq_true rfl)⟩ rfl rfl ⟨(Nat.le_of_ble_eq_true rfl), (Nat.le_of_ble_eq_true rfl)⟩ rfl (Nat.le_of_ble_eq_true rfl) rfl rfl rfl rfl (c_X9_wideOf g_q5) ?_
  refine vv_iadd 43 dX9_takesBits_42 rfl ?_
  refine vv_iload 45 dX9_takesBits_43 rfl rfl ?_
  refine vv_iconst 46 (v := 5) dX9_takesBits_45 rfl (by decide) ?_
  refine vv_icmp_ne 53 49 dX9_takesBits_46 rfl (by decide) (fun c6 => ?_) (fun c6 => ?_)
  · rw [if_pos c6] at hf
    refine vv_iconst 50 (v := 1) dX9_takesBits_49 rfl (by decide) ?_
    refine vv_goto 83 dX9_takesBits_50 (by decide) ?_
    exact VV.lle (v_X9_takesBits_83 t_a0 hf) (lle_n (lle_n (lle_s (lle_n (lle_s (lle_n (lle_n (lle_s (lle_n lle_nil)))))))))
  · rw [if_neg c6] at hf
    refine vv_iload 55 dX9_takesBits_53 rfl rfl ?_
    refine vv_bipush 57 (v := 6) dX9_takesBits_55 rfl (by decide) ?_
    refine vv_icmp_ne 75 60 dX9_takesBits_57 rfl (by decide) (fun c7 => ?_) (fun c7 => ?_)
    · rw [if_pos c7] at hf
      refine vv_bipush 62 (v := 66) dX9_takesBits_60 rfl (by decide) ?_
      refine vv_aload_n 63 dX9_takesBits_62 rfl rfl ?_
      refine gf_RX9_134 66 dX9_takesBits_63 rfl t_a0 ?_
      refine vv_isub 67 dX9_takesBits_66 rfl ?_
      refine vv_aload_n 68 dX9_takesBits_67 rfl rfl ?_
      refine gf_RX9_138 71 dX9_takesBits_68 rfl t_a0 ?_
      refine vv_isub 72 dX9_takesBits_71 rfl ?_
      refine vv_goto 83 dX9_takesBits_72 (by decide) ?_
      exact VV.lle (v_X9_takesBits_83 t_a0 hf) (lle_n (lle_n (lle_s (lle_n (lle_s (lle_n (lle_n (lle_s (lle_n lle_nil)))))))))
    · rw [if_neg c7] at hf
      refine vv_bipush 77 (v := 13) dX9_takesBits_75 rfl (by decide) ?_
      refine vv_lload 79 dX9_takesBits_77 rfl rfl ?_
      obtain ⟨q8, g_q8, hf⟩ := bind_s hf
      refine vv_callS 82 (st := [.int (13 : Int32), .int (q4 + q5)]) (As := [.long z2]) (stk2 := [.int q8, .int (13 : Int32), .int (q4 + q5)]) (cl2 := 0) (sl2 := 0) dX9_takesBits_79 rfl lk_RX9_172 w_1320 ⟨(Nat.le_of_ble_eq_true rfl), (Nat.le_of_ble_eq_true rfl)⟩ rfl rfl ⟨(Nat.le_of_ble_eq_true rfl), (Nat.le_of_ble_eq_true rfl)⟩ rfl (Nat.le_of_ble_eq_true rfl) rfl rfl rfl rfl (c_X9_wideAnew g_q8) ?_
      refine vv_iadd 83 dX9_takesBits_82 rfl ?_
      exact VV.lle (v_X9_takesBits_83 t_a0 hf) (lle_n (lle_n (lle_s (lle_n (lle_s (lle_n (lle_n (lle_s (lle_n lle_nil)))))))))

theorem c_X9_takesBits {w : Wo} {K : Kn} {a0 : Nat} {x1 : Int64} {x3 : Int64} {q : Int32} {m : Mem} (t_a0 : K a0 = some (.inl 8)) (hf : F_X9_takesBits K m a0 x1 x3 = some q) : MM w K K yX9_takesBits cX9_takesBits 9 (some .int) rm_X9_takesBits [.ref a0, .long x1, .long x3] m (some (.int q)) m 0 0 :=
  mm_of (ini := false) (n := 4) (plainFor_of_name (by decide)) rfl (fun h => by first | rfl | cases h) (Nat.le_of_ble_eq_true rfl) rfl (v_X9_takesBits_0 t_a0 hf)

set_option maxHeartbeats 4000000 in
theorem v_X9_puts_47 {w : Wo} {K : Kn} {a0 : Nat} {x1 : Int32} {x2 : Int64} {x4 : Int32} {q : Mem} (t_a0 : K a0 = some (.inl 8)) (k6 : Mem → Int32 → Option Mem) (hk6 : ∀ (m : Mem) (x5 : Int32), k6 m x5 = some q → VV w RX9 cX9_puts 7 none rm_X9_puts false (QM w K none q 0 0) K 6 [some (.ref a0), some (.int x1), some (.long x2), none, none, some (.int x5), none] [] 0 0 m) {m : Mem} {x5 : Int32} {x6 : Int32} (hf : f_X9_puts_47 K a0 x1 x2 x4 k6 m x5 x6 = some q) : VV w RX9 cX9_puts 7 none rm_X9_puts false (QM w K none q 0 0) K 47 [some (.ref a0), some (.int x1), some (.long x2), none, none, some (.int x5), some (.int x6)] [] 0 0 m := by
  unfold f_X9_puts_47 at hf
  refine vv_aload_n 48 dX9_puts_47 rfl rfl ?_
  obtain ⟨b1, g_b1, hf⟩ := bind_s hf
  have t_b1 := (ldA_spec g_b1).2
  refine gf_RX9_19 51 dX9_puts_48 rfl t_a0 (ldA_spec g_b1).1 ?_
  refine vv_iload 53 dX9_puts_51 rfl rfl ?_
  refine vv_dup2 54 dX9_puts_53 rfl rfl rfl ?_
  obtain ⟨r2, g_r2, hf⟩ := bind_s hf
  refine vv_iald 55 dX9_puts_54 rfl t_b1 g_r2 ?_
  refine vv_lload_n 56 dX9_puts_55 rfl rfl ?_
  refine vv_iload 58 dX9_puts_56 rfl rfl ?_
  refine vv_lshr 59 dX9_puts_58 rfl ?_
  refine vv_lconst 60 (v := 1) dX9_puts_59 rfl (by decide) ?_
  refine vv_land 61 dX9_puts_60 rfl ?_
  refine vv_l2i 62 dX9_puts_61 rfl ?_
  refine vv_bipush 64 (v := 7) dX9_puts_62 rfl (by decide) ?_
  refine vv_aload_n 65 dX9_puts_64 rfl rfl ?_
  refine gf_RX9_175 68 dX9_puts_65 rfl t_a0 ?_
  refine vv_bipush 70 (v := 8) dX9_puts_68 rfl (by decide) ?_
  refine vv_irem 71 dX9_puts_70 rfl (by decide) ?_
  refine vv_isub 72 dX9_puts_71 rfl ?_
  refine vv_ishl 73 dX9_puts_72 rfl ?_
  refine vv_ior 74 dX9_puts_73 rfl ?_
  obtain ⟨m3, g_m3, hf⟩ := bind_s hf
  refine vv_iast 75 dX9_puts_74 rfl t_b1 g_m3 ?_
  refine vv_aload_n 76 dX9_puts_75 rfl rfl ?_
  refine vv_dup 77 dX9_puts_76 rfl rfl ?_
  refine gf_RX9_175 80 dX9_puts_77 rfl t_a0 ?_
  refine vv_iconst 81 (v := 1) dX9_puts_80 rfl (by decide) ?_
  refine vv_iadd 82 dX9_puts_81 rfl ?_
  obtain ⟨m4, e_m4, hf⟩ := bd_s hf
  refine pf_RX9_175 85 dX9_puts_82 rfl t_a0 e_m4 ?_
  obtain ⟨z5, e_z5, hf⟩ := bd_s hf
  refine vv_iincE (q := 88) (v := z5) (c := (-1)) (L' := [some (.ref a0), some (.int x1), some (.long x2), none, none, some (.int z5), some (.int x6)]) e_z5 dX9_puts_85 rfl rfl (by decide) (Nat.le_of_ble_eq_true rfl) rfl ?_
  refine vv_goto 6 dX9_puts_88 (by decide) ?_
  exact VV.lle (hk6 _ _ hf) (lle_s (lle_s (lle_s (lle_s (lle_s (lle_s (lle_n lle_nil)))))))

set_option maxHeartbeats 4000000 in
theorem v_X9_puts_6B {w : Wo} {K : Kn} {a0 : Nat} {x1 : Int32} {x2 : Int64} {x4 : Int32} {q : Mem} (t_a0 : K a0 = some (.inl 8)) (k6 : Mem → Int32 → Option Mem) (hk6 : ∀ (m : Mem) (x5 : Int32), k6 m x5 = some q → VV w RX9 cX9_puts 7 none rm_X9_puts false (QM w K none q 0 0) K 6 [some (.ref a0), some (.int x1), some (.long x2), none, none, some (.int x5), none] [] 0 0 m) {m : Mem} {x5 : Int32} (hf : f_X9_puts_6B K a0 x1 x2 x4 k6 m x5 = some q) : VV w RX9 cX9_puts 7 none rm_X9_puts false (QM w K none q 0 0) K 6 [some (.ref a0), some (.int x1), some (.long x2), none, none, some (.int x5), none] [] 0 0 m := by
  unfold f_X9_puts_6B at hf
  refine vv_iload 8 dX9_puts_6 rfl rfl ?_
  refine vv_if_lt 91 11 dX9_puts_8 rfl (by decide) (fun c1 => ?_) (fun c1 => ?_)
  · rw [if_pos c1] at hf
    obtain rfl := Option.some.inj hf
    exact vv_vret dX9_puts_91 rfl
  · rw [if_neg c1] at hf
    refine vv_sipush 14 (v := 200) dX9_puts_11 rfl (by decide) ?_
    refine vv_iload_n 15 dX9_puts_14 rfl rfl ?_
    refine vv_imul 16 dX9_puts_15 rfl ?_
    refine vv_bipush 18 (v := 14) dX9_puts_16 rfl (by decide) ?_
    refine vv_iadd 19 dX9_puts_18 rfl ?_
    refine vv_aload_n 20 dX9_puts_19 rfl rfl ?_
    refine gf_RX9_175 23 dX9_puts_20 rfl t_a0 ?_
    refine vv_bipush 25 (v := 8) dX9_puts_23 rfl (by decide) ?_
    refine vv_idiv 26 dX9_puts_25 rfl (by decide) ?_
    refine vv_iadd 27 dX9_puts_26 rfl ?_
    obtain ⟨z2, e_z2, hf⟩ := bd_s hf
    refine vv_istoreE (q := 29) (v := z2) (L' := [some (.ref a0), some (.int x1), some (.long x2), none, none, some (.int x5), some (.int z2)]) e_z2 dX9_puts_27 rfl (Nat.le_of_ble_eq_true rfl) rfl ?_
    refine vv_aload_n 30 dX9_puts_29 rfl rfl ?_
    refine gf_RX9_175 33 dX9_puts_30 rfl t_a0 ?_
    refine vv_bipush 35 (v := 8) dX9_puts_33 rfl (by decide) ?_
    refine vv_irem 36 dX9_puts_35 rfl (by decide) ?_
    refine vv_if_ne 47 39 dX9_puts_36 rfl (by decide) (fun c3 => ?_) (fun c3 => ?_)
    · rw [if_pos c3] at hf
      refine vv_aload_n 40 dX9_puts_39 rfl rfl ?_
      obtain ⟨b4, g_b4, hf⟩ := bind_s hf
      have t_b4 := (ldA_spec g_b4).2
      refine gf_RX9_19 43 dX9_puts_40 rfl t_a0 (ldA_spec g_b4).1 ?_
      refine vv_iload 45 dX9_puts_43 rfl rfl ?_
      refine vv_iconst 46 (v := 0) dX9_puts_45 rfl (by decide) ?_
      obtain ⟨m5, g_m5, hf⟩ := bind_s hf
      refine vv_iast 47 dX9_puts_46 rfl t_b4 g_m5 ?_
      exact v_X9_puts_47 t_a0 k6 hk6 hf
    · rw [if_neg c3] at hf
      exact v_X9_puts_47 t_a0 k6 hk6 hf

theorem v_X9_puts_6 {w : Wo} {K : Kn} {a0 : Nat} {x1 : Int32} {x2 : Int64} {x4 : Int32} {q : Mem} (t_a0 : K a0 = some (.inl 8)) : ∀ (n : Nat) (m : Mem) (x5 : Int32), f_X9_puts_6 K a0 x1 x2 x4 n m x5 = some q → VV w RX9 cX9_puts 7 none rm_X9_puts false (QM w K none q 0 0) K 6 [some (.ref a0), some (.int x1), some (.long x2), none, none, some (.int x5), none] [] 0 0 m := by
  intro n
  induction n with
  | zero => intro m x5 hf; cases hf
  | succ n ih => intro m x5 hf; exact v_X9_puts_6B (a0 := a0) (x1 := x1) (x2 := x2) (x4 := x4) t_a0 (f_X9_puts_6 K a0 x1 x2 x4 n) ih hf

set_option maxHeartbeats 4000000 in
theorem v_X9_puts_0 {w : Wo} {K : Kn} {a0 : Nat} {x1 : Int32} {x2 : Int64} {x4 : Int32} {q : Mem} (t_a0 : K a0 = some (.inl 8)) {m : Mem} (hf : f_X9_puts K a0 x1 x2 x4 m = some q) : VV w RX9 cX9_puts 7 none rm_X9_puts false (QM w K none q 0 0) K 0 [some (.ref a0), some (.int x1), some (.long x2), none, some (.int x4), none, none] [] 0 0 m := by
  unfold f_X9_puts at hf
  refine vv_iload 2 dX9_puts_0 rfl rfl ?_
  refine vv_iconst 3 (v := 1) dX9_puts_2 rfl (by decide) ?_
  refine vv_isub 4 dX9_puts_3 rfl ?_
  obtain ⟨z1, e_z1, hf⟩ := bd_s hf
  refine vv_istoreE (q := 6) (v := z1) (L' := [some (.ref a0), some (.int x1), some (.long x2), none, some (.int x4), some (.int z1), none]) e_z1 dX9_puts_4 rfl (Nat.le_of_ble_eq_true rfl) rfl ?_
  exact VV.lle (v_X9_puts_6 t_a0 FU _ _ hf) (lle_s (lle_s (lle_s (lle_s (lle_n (lle_s (lle_s lle_nil)))))))

theorem c_X9_puts {w : Wo} {K : Kn} {a0 : Nat} {x1 : Int32} {x2 : Int64} {x4 : Int32} {q : Mem} {m : Mem} (t_a0 : K a0 = some (.inl 8)) (hf : F_X9_puts K m a0 x1 x2 x4 = some q) : MM w K K yX9_puts cX9_puts 7 none rm_X9_puts [.ref a0, .int x1, .long x2, .int x4] m none q 0 0 :=
  mm_of (ini := false) (n := 2) (plainFor_of_name (by decide)) rfl (fun h => by first | rfl | cases h) (Nat.le_of_ble_eq_true rfl) rfl (v_X9_puts_0 t_a0 hf)

set_option maxHeartbeats 4000000 in
theorem v_X9_writes_241 {w : Wo} {K : Kn} {a0 : Nat} {x1 : Int32} {x2 : Int64} {x4 : Int64} {q : Mem} (t_a0 : K a0 = some (.inl 8)) {m : Mem} (hf : f_X9_writes_241 K a0 x1 x2 x4 m = some q) : VV w RX9 cX9_writes 13 none rm_X9_writes false (QM w K none q 0 0) K 241 [some (.ref a0), some (.int x1), some (.long x2), none, some (.long x4), none, none, none, none, none, none, none, none] [] 0 0 m := by
  unfold f_X9_writes_241 at hf
  refine vv_aload_n 242 dX9_writes_241 rfl rfl ?_
  refine vv_lload_n 243 dX9_writes_242 rfl rfl ?_
  refine vv_aload_n 244 dX9_writes_243 rfl rfl ?_
  refine gf_RX9_149 247 dX9_writes_244 rfl t_a0 ?_
  refine vv_lsub 248 dX9_writes_247 rfl ?_
  obtain ⟨m1, e_m1, hf⟩ := bd_s hf
  refine pf_RX9_153 251 dX9_writes_248 rfl t_a0 e_m1 ?_
  refine vv_aload_n 252 dX9_writes_251 rfl rfl ?_
  refine vv_lload_n 253 dX9_writes_252 rfl rfl ?_
  obtain ⟨m2, e_m2, hf⟩ := bd_s hf
  refine pf_RX9_149 256 dX9_writes_253 rfl t_a0 e_m2 ?_
  refine vv_aload_n 257 dX9_writes_256 rfl rfl ?_
  refine vv_lload 259 dX9_writes_257 rfl rfl ?_
  obtain ⟨m3, e_m3, hf⟩ := bd_s hf
  refine pf_RX9_159 262 dX9_writes_259 rfl t_a0 e_m3 ?_
  refine vv_aload_n 263 dX9_writes_262 rfl rfl ?_
  refine vv_iload_n 264 dX9_writes_263 rfl rfl ?_
  refine vv_bipush 266 (v := 12) dX9_writes_264 rfl (by decide) ?_
  obtain ⟨q4, g_q4, hf⟩ := bind_s hf
  refine vv_callV 269 (st := []) (As := [.int x1, .int (12 : Int32)]) (stk2 := [.int q4]) (cl2 := 0) (sl2 := 0) dX9_writes_266 rfl lk_RX9_107 w_1248 w_27 rfl t_a0 ⟨(Nat.le_of_ble_eq_true rfl), (Nat.le_of_ble_eq_true rfl)⟩ rfl rfl ⟨(Nat.le_of_ble_eq_true rfl), (Nat.le_of_ble_eq_true rfl)⟩ rfl (Nat.le_of_ble_eq_true rfl) rfl rfl rfl rfl (c_X9_byteAt t_a0 g_q4) ?_
  refine vv_sipush 272 (v := 256) dX9_writes_269 rfl (by decide) ?_
  refine vv_imul 273 dX9_writes_272 rfl ?_
  refine vv_aload_n 274 dX9_writes_273 rfl rfl ?_
  refine vv_iload_n 275 dX9_writes_274 rfl rfl ?_
  refine vv_bipush 277 (v := 13) dX9_writes_275 rfl (by decide) ?_
  obtain ⟨q5, g_q5, hf⟩ := bind_s hf
  refine vv_callV 280 (st := [.int (q4 * (256 : Int32))]) (As := [.int x1, .int (13 : Int32)]) (stk2 := [.int q5, .int (q4 * (256 : Int32))]) (cl2 := 0) (sl2 := 0) dX9_writes_277 rfl lk_RX9_107 w_1248 w_27 rfl t_a0 ⟨(Nat.le_of_ble_eq_true rfl), (Nat.le_of_ble_eq_true rfl)⟩ rfl rfl ⟨(Nat.le_of_ble_eq_true rfl), (Nat.le_of_ble_eq_true rfl)⟩ rfl (Nat.le_of_ble_eq_true rfl) rfl rfl rfl rfl (c_X9_byteAt t_a0 g_q5) ?_
  refine vv_iadd 281 dX9_writes_280 rfl ?_
  refine vv_iconst 282 (v := 1) dX9_writes_281 rfl (by decide) ?_
  refine vv_iadd 283 dX9_writes_282 rfl ?_
  obtain ⟨z6, e_z6, hf⟩ := bd_s hf
  refine vv_istoreE (q := 285) (v := z6) (L' := [some (.ref a0), some (.int x1), some (.long x2), none, some (.long x4), none, none, none, none, none, none, none, some (.int z6)]) e_z6 dX9_writes_283 rfl (Nat.le_of_ble_eq_true rfl) rfl ?_
  refine vv_aload_n 286 dX9_writes_285 rfl rfl ?_
  obtain ⟨b7, g_b7, hf⟩ := bind_s hf
  have t_b7 := (ldA_spec g_b7).2
  refine gf_RX9_19 289 dX9_writes_286 rfl t_a0 (ldA_spec g_b7).1 ?_
  refine vv_sipush 292 (v := 200) dX9_writes_289 rfl (by decide) ?_
  refine vv_iload_n 293 dX9_writes_292 rfl rfl ?_
  refine vv_imul 294 dX9_writes_293 rfl ?_
  refine vv_bipush 296 (v := 12) dX9_writes_294 rfl (by decide) ?_
  refine vv_iadd 297 dX9_writes_296 rfl ?_
  refine vv_iload 299 dX9_writes_297 rfl rfl ?_
  refine vv_sipush 302 (v := 256) dX9_writes_299 rfl (by decide) ?_
  refine vv_idiv 303 dX9_writes_302 rfl (by decide) ?_
  obtain ⟨m8, g_m8, hf⟩ := bind_s hf
  refine vv_iast 304 dX9_writes_303 rfl t_b7 g_m8 ?_
  refine vv_aload_n 305 dX9_writes_304 rfl rfl ?_
  obtain ⟨b9, g_b9, hf⟩ := bind_s hf
  have t_b9 := (ldA_spec g_b9).2
  refine gf_RX9_19 308 dX9_writes_305 rfl t_a0 (ldA_spec g_b9).1 ?_
  refine vv_sipush 311 (v := 200) dX9_writes_308 rfl (by decide) ?_
  refine vv_iload_n 312 dX9_writes_311 rfl rfl ?_
  refine vv_imul 313 dX9_writes_312 rfl ?_
  refine vv_bipush 315 (v := 13) dX9_writes_313 rfl (by decide) ?_
  refine vv_iadd 316 dX9_writes_315 rfl ?_
  refine vv_iload 318 dX9_writes_316 rfl rfl ?_
  refine vv_sipush 321 (v := 256) dX9_writes_318 rfl (by decide) ?_
  refine vv_irem 322 dX9_writes_321 rfl (by decide) ?_
  obtain ⟨m10, g_m10, hf⟩ := bind_s hf
  refine vv_iast 323 dX9_writes_322 rfl t_b9 g_m10 ?_
  refine vv_aload_n 324 dX9_writes_323 rfl rfl ?_
  obtain ⟨b11, g_b11, hf⟩ := bind_s hf
  have t_b11 := (ldA_spec g_b11).2
  refine gf_RX9_25 327 dX9_writes_324 rfl t_a0 (ldA_spec g_b11).1 ?_
  refine vv_iload_n 328 dX9_writes_327 rfl rfl ?_
  refine vv_aload_n 329 dX9_writes_328 rfl rfl ?_
  refine gf_RX9_175 332 dX9_writes_329 rfl t_a0 ?_
  obtain ⟨m12, g_m12, hf⟩ := bind_s hf
  refine vv_iast 333 dX9_writes_332 rfl t_b11 g_m12 ?_
  refine vv_aload_n 334 dX9_writes_333 rfl rfl ?_
  obtain ⟨b13, g_b13, hf⟩ := bind_s hf
  have t_b13 := (ldA_spec g_b13).2
  refine gf_RX9_22 337 dX9_writes_334 rfl t_a0 (ldA_spec g_b13).1 ?_
  refine vv_iload_n 338 dX9_writes_337 rfl rfl ?_
  refine vv_bipush 340 (v := 14) dX9_writes_338 rfl (by decide) ?_
  refine vv_aload_n 341 dX9_writes_340 rfl rfl ?_
  refine gf_RX9_175 344 dX9_writes_341 rfl t_a0 ?_
  refine vv_bipush 346 (v := 7) dX9_writes_344 rfl (by decide) ?_
  refine vv_iadd 347 dX9_writes_346 rfl ?_
  refine vv_bipush 349 (v := 8) dX9_writes_347 rfl (by decide) ?_
  refine vv_idiv 350 dX9_writes_349 rfl (by decide) ?_
  refine vv_iadd 351 dX9_writes_350 rfl ?_
  obtain ⟨m14, g_m14, hf⟩ := bind_s hf
  refine vv_iast 352 dX9_writes_351 rfl t_b13 g_m14 ?_
  obtain rfl := Option.some.inj hf
  exact vv_vret dX9_writes_352 rfl

set_option maxHeartbeats 4000000 in
theorem v_X9_writes_70 {w : Wo} {K : Kn} {a0 : Nat} {x1 : Int32} {x2 : Int64} {x4 : Int64} {q : Mem} (t_a0 : K a0 = some (.inl 8)) {m : Mem} {x6 : Int64} {x8 : Int32} {sa0 : Nat} {s1 : Int32} {s2 : Int64} (t_sa0 : K sa0 = some (.inl 8)) (hf : f_X9_writes_70 K a0 x1 x2 x4 m x6 x8 sa0 s1 s2 = some q) : VV w RX9 cX9_writes 13 none rm_X9_writes false (QM w K none q 0 0) K 70 [some (.ref a0), some (.int x1), some (.long x2), none, some (.long x4), none, some (.long x6), none, some (.int x8), none, none, none, none] [.long s2, .int s1, .ref sa0] 0 0 m := by
  unfold f_X9_writes_70 at hf
  refine vv_iload 72 dX9_writes_70 rfl rfl ?_
  obtain ⟨q1, g_q1, hf⟩ := bind_s hf
  refine vv_callS 75 (st := [.long s2, .int s1, .ref sa0]) (As := [.int x8]) (stk2 := [.int q1, .long s2, .int s1, .ref sa0]) (cl2 := 0) (sl2 := 0) dX9_writes_72 rfl lk_RX9_165 w_1317 ⟨(Nat.le_of_ble_eq_true rfl), (Nat.le_of_ble_eq_true rfl)⟩ rfl rfl ⟨(Nat.le_of_ble_eq_true rfl), (Nat.le_of_ble_eq_true rfl)⟩ rfl (Nat.le_of_ble_eq_true rfl) rfl rfl rfl rfl (c_X9_signsOf g_q1) ?_
  obtain ⟨q2, g_q2, hf⟩ := bind_s hf
  refine vv_callV 78 (st := []) (As := [.int s1, .long s2, .int q1]) (stk2 := []) (cl2 := 0) (sl2 := 0) dX9_writes_75 rfl lk_RX9_186 w_1331 w_40 rfl t_sa0 ⟨(Nat.le_of_ble_eq_true rfl), (Nat.le_of_ble_eq_true rfl)⟩ rfl rfl ⟨(Nat.le_of_ble_eq_true rfl), (Nat.le_of_ble_eq_true rfl)⟩ rfl (Nat.le_of_ble_eq_true rfl) rfl rfl rfl rfl (c_X9_puts t_sa0 g_q2) ?_
  refine vv_aload_n 79 dX9_writes_78 rfl rfl ?_
  refine vv_iload_n 80 dX9_writes_79 rfl rfl ?_
  refine vv_lload 82 dX9_writes_80 rfl rfl ?_
  refine vv_iload 84 dX9_writes_82 rfl rfl ?_
  obtain ⟨q3, g_q3, hf⟩ := bind_s hf
  refine vv_callS 87 (st := [.long x6, .int x1, .ref a0]) (As := [.int x8]) (stk2 := [.int q3, .long x6, .int x1, .ref a0]) (cl2 := 0) (sl2 := 0) dX9_writes_84 rfl lk_RX9_169 w_1283 ⟨(Nat.le_of_ble_eq_true rfl), (Nat.le_of_ble_eq_true rfl)⟩ rfl rfl ⟨(Nat.le_of_ble_eq_true rfl), (Nat.le_of_ble_eq_true rfl)⟩ rfl (Nat.le_of_ble_eq_true rfl) rfl rfl rfl rfl (c_X9_wideOf g_q3) ?_
  obtain ⟨q4, g_q4, hf⟩ := bind_s hf
  refine vv_callV 90 (st := []) (As := [.int x1, .long x6, .int q3]) (stk2 := []) (cl2 := 0) (sl2 := 0) dX9_writes_87 rfl lk_RX9_186 w_1331 w_40 rfl t_a0 ⟨(Nat.le_of_ble_eq_true rfl), (Nat.le_of_ble_eq_true rfl)⟩ rfl rfl ⟨(Nat.le_of_ble_eq_true rfl), (Nat.le_of_ble_eq_true rfl)⟩ rfl (Nat.le_of_ble_eq_true rfl) rfl rfl rfl rfl (c_X9_puts t_a0 g_q4) ?_
  refine vv_lload 92 dX9_writes_90 rfl rfl ?_
  refine vv_aload_n 93 dX9_writes_92 rfl rfl ?_
  refine gf_RX9_159 96 dX9_writes_93 rfl t_a0 ?_
  refine vv_lxor 97 dX9_writes_96 rfl ?_
  obtain ⟨z5, e_z5, hf⟩ := bd_s hf
  refine vv_lstoreE (q := 99) (v := z5) (L' := [some (.ref a0), some (.int x1), some (.long x2), none, some (.long x4), none, some (.long x6), none, some (.int x8), some (.long z5), none, none, none]) e_z5 dX9_writes_97 rfl (Nat.le_of_ble_eq_true rfl) rfl ?_
  refine vv_aload_n 100 dX9_writes_99 rfl rfl ?_
  refine vv_lload 102 dX9_writes_100 rfl rfl ?_
  obtain ⟨q6, g_q6, hf⟩ := bind_s hf
  refine vv_callV 105 (st := []) (As := [.long z5]) (stk2 := [.int q6]) (cl2 := 0) (sl2 := 0) dX9_writes_102 rfl lk_RX9_162 w_1300 w_36 rfl t_a0 ⟨(Nat.le_of_ble_eq_true rfl), (Nat.le_of_ble_eq_true rfl)⟩ rfl rfl ⟨(Nat.le_of_ble_eq_true rfl), (Nat.le_of_ble_eq_true rfl)⟩ rfl (Nat.le_of_ble_eq_true rfl) rfl rfl rfl rfl (c_X9_wayOf t_a0 g_q6) ?_
  refine vv_istore 107 (L' := [some (.ref a0), some (.int x1), some (.long x2), none, some (.long x4), none, some (.long x6), none, some (.int x8), some (.long z5), none, some (.int q6), none]) dX9_writes_105 rfl (Nat.le_of_ble_eq_true rfl) rfl ?_
  refine vv_iload 109 dX9_writes_107 rfl rfl ?_
  refine vv_iconst 110 (v := 5) dX9_writes_109 rfl (by decide) ?_
  refine vv_icmp_ne 123 113 dX9_writes_110 rfl (by decide) (fun c7 => ?_) (fun c7 => ?_)
  · rw [if_pos c7] at hf
    refine vv_aload_n 114 dX9_writes_113 rfl rfl ?_
    refine vv_iload_n 115 dX9_writes_114 rfl rfl ?_
    refine vv_lconst 116 (v := 0) dX9_writes_115 rfl (by decide) ?_
    refine vv_iconst 117 (v := 1) dX9_writes_116 rfl (by decide) ?_
    obtain ⟨q8, g_q8, hf⟩ := bind_s hf
    refine vv_callV 120 (st := []) (As := [.int x1, .long (0 : Int64), .int (1 : Int32)]) (stk2 := []) (cl2 := 0) (sl2 := 0) dX9_writes_117 rfl lk_RX9_186 w_1331 w_40 rfl t_a0 ⟨(Nat.le_of_ble_eq_true rfl), (Nat.le_of_ble_eq_true rfl)⟩ rfl rfl ⟨(Nat.le_of_ble_eq_true rfl), (Nat.le_of_ble_eq_true rfl)⟩ rfl (Nat.le_of_ble_eq_true rfl) rfl rfl rfl rfl (c_X9_puts t_a0 g_q8) ?_
    refine vv_goto 241 dX9_writes_120 (by decide) ?_
    exact VV.lle (v_X9_writes_241 t_a0 hf) (lle_s (lle_s (lle_s (lle_s (lle_s (lle_s (lle_n (lle_s (lle_n (lle_n (lle_s (lle_n (lle_s lle_nil)))))))))))))
  · rw [if_neg c7] at hf
    refine vv_iload 125 dX9_writes_123 rfl rfl ?_
    refine vv_bipush 127 (v := 6) dX9_writes_125 rfl (by decide) ?_
    refine vv_icmp_ne 166 130 dX9_writes_127 rfl (by decide) (fun c9 => ?_) (fun c9 => ?_)
    · rw [if_pos c9] at hf
      refine vv_aload_n 131 dX9_writes_130 rfl rfl ?_
      refine vv_iload_n 132 dX9_writes_131 rfl rfl ?_
      refine vv_ldc2 135 (v := 2) dX9_writes_132 rfl w_1291 ?_
      refine vv_iconst 136 (v := 2) dX9_writes_135 rfl (by decide) ?_
      obtain ⟨q10, g_q10, hf⟩ := bind_s hf
      refine vv_callV 139 (st := []) (As := [.int x1, .long (2 : Int64), .int (2 : Int32)]) (stk2 := []) (cl2 := 0) (sl2 := 0) dX9_writes_136 rfl lk_RX9_186 w_1331 w_40 rfl t_a0 ⟨(Nat.le_of_ble_eq_true rfl), (Nat.le_of_ble_eq_true rfl)⟩ rfl rfl ⟨(Nat.le_of_ble_eq_true rfl), (Nat.le_of_ble_eq_true rfl)⟩ rfl (Nat.le_of_ble_eq_true rfl) rfl rfl rfl rfl (c_X9_puts t_a0 g_q10) ?_
      refine vv_aload_n 140 dX9_writes_139 rfl rfl ?_
      refine vv_iload_n 141 dX9_writes_140 rfl rfl ?_
      refine vv_lload 143 dX9_writes_141 rfl rfl ?_
      refine vv_aload_n 144 dX9_writes_143 rfl rfl ?_
      refine gf_RX9_138 147 dX9_writes_144 rfl t_a0 ?_
      refine vv_lushr 148 dX9_writes_147 rfl ?_
      refine vv_bipush 150 (v := 64) dX9_writes_148 rfl (by decide) ?_
      refine vv_aload_n 151 dX9_writes_150 rfl rfl ?_
      refine gf_RX9_134 154 dX9_writes_151 rfl t_a0 ?_
      refine vv_isub 155 dX9_writes_154 rfl ?_
      refine vv_aload_n 156 dX9_writes_155 rfl rfl ?_
      refine gf_RX9_138 159 dX9_writes_156 rfl t_a0 ?_
      refine vv_isub 160 dX9_writes_159 rfl ?_
      obtain ⟨q11, g_q11, hf⟩ := bind_s hf
      refine vv_callV 163 (st := []) (As := [.int x1, .long (lushr z5 (gI q10 a0 18)), .int (((64 : Int32) - (gI q10 a0 17)) - (gI q10 a0 18))]) (stk2 := []) (cl2 := 0) (sl2 := 0) dX9_writes_160 rfl lk_RX9_186 w_1331 w_40 rfl t_a0 ⟨(Nat.le_of_ble_eq_true rfl), (Nat.le_of_ble_eq_true rfl)⟩ rfl rfl ⟨(Nat.le_of_ble_eq_true rfl), (Nat.le_of_ble_eq_true rfl)⟩ rfl (Nat.le_of_ble_eq_true rfl) rfl rfl rfl rfl (c_X9_puts t_a0 g_q11) ?_
      refine vv_goto 241 dX9_writes_163 (by decide) ?_
      exact VV.lle (v_X9_writes_241 t_a0 hf) (lle_s (lle_s (lle_s (lle_s (lle_s (lle_s (lle_n (lle_s (lle_n (lle_n (lle_s (lle_n (lle_s lle_nil)))))))))))))
    · rw [if_neg c9] at hf
      refine vv_aload_n 167 dX9_writes_166 rfl rfl ?_
      refine vv_iload_n 168 dX9_writes_167 rfl rfl ?_
      refine vv_ldc2 171 (v := 3) dX9_writes_168 rfl w_1204 ?_
      refine vv_iconst 172 (v := 2) dX9_writes_171 rfl (by decide) ?_
      obtain ⟨q12, g_q12, hf⟩ := bind_s hf
      refine vv_callV 175 (st := []) (As := [.int x1, .long (3 : Int64), .int (2 : Int32)]) (stk2 := []) (cl2 := 0) (sl2 := 0) dX9_writes_172 rfl lk_RX9_186 w_1331 w_40 rfl t_a0 ⟨(Nat.le_of_ble_eq_true rfl), (Nat.le_of_ble_eq_true rfl)⟩ rfl rfl ⟨(Nat.le_of_ble_eq_true rfl), (Nat.le_of_ble_eq_true rfl)⟩ rfl (Nat.le_of_ble_eq_true rfl) rfl rfl rfl rfl (c_X9_puts t_a0 g_q12) ?_
      refine vv_aload_n 176 dX9_writes_175 rfl rfl ?_
      refine vv_lload 178 dX9_writes_176 rfl rfl ?_
      obtain ⟨q13, g_q13, hf⟩ := bind_s hf
      refine vv_callS 181 (st := [.ref a0]) (As := [.long z5]) (stk2 := [.int q13, .ref a0]) (cl2 := 0) (sl2 := 0) dX9_writes_178 rfl lk_RX9_146 w_1305 ⟨(Nat.le_of_ble_eq_true rfl), (Nat.le_of_ble_eq_true rfl)⟩ rfl rfl ⟨(Nat.le_of_ble_eq_true rfl), (Nat.le_of_ble_eq_true rfl)⟩ rfl (Nat.le_of_ble_eq_true rfl) rfl rfl rfl rfl (c_X9_aheadOf g_q13) ?_
      obtain ⟨m14, e_m14, hf⟩ := bd_s hf
      refine pf_RX9_134 184 dX9_writes_181 rfl t_a0 e_m14 ?_
      refine vv_aload_n 185 dX9_writes_184 rfl rfl ?_
      refine vv_lload 187 dX9_writes_185 rfl rfl ?_
      obtain ⟨q15, g_q15, hf⟩ := bind_s hf
      refine vv_callS 190 (st := [.ref a0]) (As := [.long z5]) (stk2 := [.int q15, .ref a0]) (cl2 := 0) (sl2 := 0) dX9_writes_187 rfl lk_RX9_127 w_502 ⟨(Nat.le_of_ble_eq_true rfl), (Nat.le_of_ble_eq_true rfl)⟩ rfl rfl ⟨(Nat.le_of_ble_eq_true rfl), (Nat.le_of_ble_eq_true rfl)⟩ rfl (Nat.le_of_ble_eq_true rfl) rfl rfl rfl rfl (c_J13_numberOfTrailingZeros_95d88 g_q15) ?_
      obtain ⟨m16, e_m16, hf⟩ := bd_s hf
      refine pf_RX9_138 193 dX9_writes_190 rfl t_a0 e_m16 ?_
      refine vv_aload_n 194 dX9_writes_193 rfl rfl ?_
      refine vv_iconst 195 (v := 1) dX9_writes_194 rfl (by decide) ?_
      obtain ⟨m17, e_m17, hf⟩ := bd_s hf
      refine pf_RX9_130 198 dX9_writes_195 rfl t_a0 (by decide) e_m17 ?_
      refine vv_aload_n 199 dX9_writes_198 rfl rfl ?_
      refine vv_iload_n 200 dX9_writes_199 rfl rfl ?_
      refine vv_aload_n 201 dX9_writes_200 rfl rfl ?_
      refine gf_RX9_134 204 dX9_writes_201 rfl t_a0 ?_
      refine vv_i2l 205 dX9_writes_204 rfl ?_
      refine vv_iconst 206 (v := 5) dX9_writes_205 rfl (by decide) ?_
      obtain ⟨q18, g_q18, hf⟩ := bind_s hf
      refine vv_callV 209 (st := []) (As := [.int x1, .long ((gI m17 a0 17).toInt64), .int (5 : Int32)]) (stk2 := []) (cl2 := 0) (sl2 := 0) dX9_writes_206 rfl lk_RX9_186 w_1331 w_40 rfl t_a0 ⟨(Nat.le_of_ble_eq_true rfl), (Nat.le_of_ble_eq_true rfl)⟩ rfl rfl ⟨(Nat.le_of_ble_eq_true rfl), (Nat.le_of_ble_eq_true rfl)⟩ rfl (Nat.le_of_ble_eq_true rfl) rfl rfl rfl rfl (c_X9_puts t_a0 g_q18) ?_
      refine vv_aload_n 210 dX9_writes_209 rfl rfl ?_
      refine vv_iload_n 211 dX9_writes_210 rfl rfl ?_
      refine vv_lload 213 dX9_writes_211 rfl rfl ?_
      obtain ⟨q19, g_q19, hf⟩ := bind_s hf
      refine vv_callS 216 (st := [.int x1, .ref a0]) (As := [.long z5]) (stk2 := [.int q19, .int x1, .ref a0]) (cl2 := 0) (sl2 := 0) dX9_writes_213 rfl lk_RX9_172 w_1320 ⟨(Nat.le_of_ble_eq_true rfl), (Nat.le_of_ble_eq_true rfl)⟩ rfl rfl ⟨(Nat.le_of_ble_eq_true rfl), (Nat.le_of_ble_eq_true rfl)⟩ rfl (Nat.le_of_ble_eq_true rfl) rfl rfl rfl rfl (c_X9_wideAnew g_q19) ?_
      refine vv_iconst 217 (v := 1) dX9_writes_216 rfl (by decide) ?_
      refine vv_isub 218 dX9_writes_217 rfl ?_
      refine vv_i2l 219 dX9_writes_218 rfl ?_
      refine vv_bipush 221 (v := 6) dX9_writes_219 rfl (by decide) ?_
      obtain ⟨q20, g_q20, hf⟩ := bind_s hf
      refine vv_callV 224 (st := []) (As := [.int x1, .long ((q19 - (1 : Int32)).toInt64), .int (6 : Int32)]) (stk2 := []) (cl2 := 0) (sl2 := 0) dX9_writes_221 rfl lk_RX9_186 w_1331 w_40 rfl t_a0 ⟨(Nat.le_of_ble_eq_true rfl), (Nat.le_of_ble_eq_true rfl)⟩ rfl rfl ⟨(Nat.le_of_ble_eq_true rfl), (Nat.le_of_ble_eq_true rfl)⟩ rfl (Nat.le_of_ble_eq_true rfl) rfl rfl rfl rfl (c_X9_puts t_a0 g_q20) ?_
      refine vv_aload_n 225 dX9_writes_224 rfl rfl ?_
      refine vv_iload_n 226 dX9_writes_225 rfl rfl ?_
      refine vv_lload 228 dX9_writes_226 rfl rfl ?_
      refine vv_aload_n 229 dX9_writes_228 rfl rfl ?_
      refine gf_RX9_138 232 dX9_writes_229 rfl t_a0 ?_
      refine vv_lushr 233 dX9_writes_232 rfl ?_
      refine vv_lload 235 dX9_writes_233 rfl rfl ?_
      obtain ⟨q21, g_q21, hf⟩ := bind_s hf
      refine vv_callS 238 (st := [.long (lushr z5 (gI q20 a0 18)), .int x1, .ref a0]) (As := [.long z5]) (stk2 := [.int q21, .long (lushr z5 (gI q20 a0 18)), .int x1, .ref a0]) (cl2 := 0) (sl2 := 0) dX9_writes_235 rfl lk_RX9_172 w_1320 ⟨(Nat.le_of_ble_eq_true rfl), (Nat.le_of_ble_eq_true rfl)⟩ rfl rfl ⟨(Nat.le_of_ble_eq_true rfl), (Nat.le_of_ble_eq_true rfl)⟩ rfl (Nat.le_of_ble_eq_true rfl) rfl rfl rfl rfl (c_X9_wideAnew g_q21) ?_
      obtain ⟨q22, g_q22, hf⟩ := bind_s hf
      refine vv_callV 241 (st := []) (As := [.int x1, .long (lushr z5 (gI q20 a0 18)), .int q21]) (stk2 := []) (cl2 := 0) (sl2 := 0) dX9_writes_238 rfl lk_RX9_186 w_1331 w_40 rfl t_a0 ⟨(Nat.le_of_ble_eq_true rfl), (Nat.le_of_ble_eq_true rfl)⟩ rfl rfl ⟨(Nat.le_of_ble_eq_true rfl), (Nat.le_of_ble_eq_true rfl)⟩ rfl (Nat.le_of_ble_eq_true rfl) rfl rfl rfl rfl (c_X9_puts t_a0 g_q22) ?_
      exact VV.lle (v_X9_writes_241 t_a0 hf) (lle_s (lle_s (lle_s (lle_s (lle_s (lle_s (lle_n (lle_s (lle_n (lle_n (lle_s (lle_n (lle_s lle_nil)))))))))))))

set_option maxHeartbeats 4000000 in
theorem v_X9_writes_0 {w : Wo} {K : Kn} {a0 : Nat} {x1 : Int32} {x2 : Int64} {x4 : Int64} {q : Mem} (t_a0 : K a0 = some (.inl 8)) {m : Mem} (hf : f_X9_writes K a0 x1 x2 x4 m = some q) : VV w RX9 cX9_writes 13 none rm_X9_writes false (QM w K none q 0 0) K 0 [some (.ref a0), some (.int x1), some (.long x2), none, some (.long x4), none, none, none, none, none, none, none, none] [] 0 0 m := by
  unfold f_X9_writes at hf
  refine vv_lload_n 1 dX9_writes_0 rfl rfl ?_
  refine vv_aload_n 2 dX9_writes_1 rfl rfl ?_
  refine gf_RX9_149 5 dX9_writes_2 rfl t_a0 ?_
  refine vv_lsub 6 dX9_writes_5 rfl ?_
  refine vv_aload_n 7 dX9_writes_6 rfl rfl ?_
  refine gf_RX9_153 10 dX9_writes_7 rfl t_a0 ?_
  refine vv_lsub 11 dX9_writes_10 rfl ?_
  obtain ⟨z1, e_z1, hf⟩ := bd_s hf
  refine vv_lstoreE (q := 13) (v := z1) (L' := [some (.ref a0), some (.int x1), some (.long x2), none, some (.long x4), none, some (.long z1), none, none, none, none, none, none]) e_z1 dX9_writes_11 rfl (Nat.le_of_ble_eq_true rfl) rfl ?_
  refine vv_lload 15 dX9_writes_13 rfl rfl ?_
  obtain ⟨q2, g_q2, hf⟩ := bind_s hf
  refine vv_callS 18 (st := []) (As := [.long z1]) (stk2 := [.int q2]) (cl2 := 0) (sl2 := 0) dX9_writes_15 rfl lk_RX9_156 w_1293 ⟨(Nat.le_of_ble_eq_true rfl), (Nat.le_of_ble_eq_true rfl)⟩ rfl rfl ⟨(Nat.le_of_ble_eq_true rfl), (Nat.le_of_ble_eq_true rfl)⟩ rfl (Nat.le_of_ble_eq_true rfl) rfl rfl rfl rfl (c_X9_classOf g_q2) ?_
  refine vv_istore 20 (L' := [some (.ref a0), some (.int x1), some (.long x2), none, some (.long x4), none, some (.long z1), none, some (.int q2), none, none, none, none]) dX9_writes_18 rfl (Nat.le_of_ble_eq_true rfl) rfl ?_
  refine vv_aload_n 21 dX9_writes_20 rfl rfl ?_
  refine vv_iload_n 22 dX9_writes_21 rfl rfl ?_
  refine vv_iload 24 dX9_writes_22 rfl rfl ?_
  refine vv_if_ne 31 27 dX9_writes_24 rfl (by decide) (fun c3 => ?_) (fun c3 => ?_)
  · rw [if_pos c3] at hf
    refine vv_lconst 28 (v := 0) dX9_writes_27 rfl (by decide) ?_
    refine vv_goto 70 dX9_writes_28 (by decide) ?_
    exact v_X9_writes_70 t_a0 t_a0 hf
  · rw [if_neg c3] at hf
    refine vv_iload 33 dX9_writes_31 rfl rfl ?_
    refine vv_iconst 34 (v := 1) dX9_writes_33 rfl (by decide) ?_
    refine vv_icmp_ne 43 37 dX9_writes_34 rfl (by decide) (fun c4 => ?_) (fun c4 => ?_)
    · rw [if_pos c4] at hf
      refine vv_ldc2 40 (v := 2) dX9_writes_37 rfl w_1291 ?_
      refine vv_goto 70 dX9_writes_40 (by decide) ?_
      exact v_X9_writes_70 t_a0 t_a0 hf
    · rw [if_neg c4] at hf
      refine vv_iload 45 dX9_writes_43 rfl rfl ?_
      refine vv_iconst 46 (v := 2) dX9_writes_45 rfl (by decide) ?_
      refine vv_icmp_ne 55 49 dX9_writes_46 rfl (by decide) (fun c5 => ?_) (fun c5 => ?_)
      · rw [if_pos c5] at hf
        refine vv_ldc2 52 (v := 6) dX9_writes_49 rfl w_1326 ?_
        refine vv_goto 70 dX9_writes_52 (by decide) ?_
        exact v_X9_writes_70 t_a0 t_a0 hf
      · rw [if_neg c5] at hf
        refine vv_iload 57 dX9_writes_55 rfl rfl ?_
        refine vv_iconst 58 (v := 3) dX9_writes_57 rfl (by decide) ?_
        refine vv_icmp_ne 67 61 dX9_writes_58 rfl (by decide) (fun c6 => ?_) (fun c6 => ?_)
        · rw [if_pos c6] at hf
          refine vv_ldc2 64 (v := 14) dX9_writes_61 rfl w_1327 ?_
          refine vv_goto 70 dX9_writes_64 (by decide) ?_
          exact v_X9_writes_70 t_a0 t_a0 hf
        · rw [if_neg c6] at hf
          refine vv_ldc2 70 (v := 15) dX9_writes_67 rfl w_1328 ?_
          exact v_X9_writes_70 t_a0 t_a0 hf

theorem c_X9_writes {w : Wo} {K : Kn} {a0 : Nat} {x1 : Int32} {x2 : Int64} {x4 : Int64} {q : Mem} {m : Mem} (t_a0 : K a0 = some (.inl 8)) (hf : F_X9_writes K m a0 x1 x2 x4 = some q) : MM w K K yX9_writes cX9_writes 13 none rm_X9_writes [.ref a0, .int x1, .long x2, .long x4] m none q 0 0 :=
  mm_of (ini := false) (n := 7) (plainFor_of_name (by decide)) rfl (fun h => by first | rfl | cases h) (Nat.le_of_ble_eq_true rfl) rfl (v_X9_writes_0 t_a0 hf)

set_option maxHeartbeats 4000000 in
theorem v_X9_seals0_0 {w : Wo} {K : Kn} {a0 : Nat} {x1 : Int32} {q : Mem} (t_a0 : K a0 = some (.inl 8)) {m : Mem} (hf : f_X9_seals0 K a0 x1 m = some q) : VV w RX9 cX9_seals0 2 none rm_X9_seals0 false (QM w K none q 0 0) K 0 [some (.ref a0), some (.int x1)] [] 0 0 m := by
  unfold f_X9_seals0 at hf
  refine vv_aload_n 1 dX9_seals0_0 rfl rfl ?_
  obtain ⟨b1, g_b1, hf⟩ := bind_s hf
  have t_b1 := (ldA_spec g_b1).2
  refine gf_RX9_32 4 dX9_seals0_1 rfl t_a0 (ldA_spec g_b1).1 ?_
  refine vv_iload_n 5 dX9_seals0_4 rfl rfl ?_
  refine vv_aload_n 6 dX9_seals0_5 rfl rfl ?_
  refine vv_iload_n 7 dX9_seals0_6 rfl rfl ?_
  obtain ⟨q2, g_q2, hf⟩ := bind_s hf
  refine vv_callV 10 (st := [.int x1, .ref b1]) (As := [.int x1]) (stk2 := [.long q2, .int x1, .ref b1]) (cl2 := 0) (sl2 := 0) dX9_seals0_7 rfl lk_RX9_196 w_1256 w_29 rfl t_a0 ⟨(Nat.le_of_ble_eq_true rfl), (Nat.le_of_ble_eq_true rfl)⟩ rfl rfl ⟨(Nat.le_of_ble_eq_true rfl), (Nat.le_of_ble_eq_true rfl)⟩ rfl (Nat.le_of_ble_eq_true rfl) rfl rfl rfl rfl (c_X9_headStamp t_a0 g_q2) ?_
  refine vv_l2i 11 dX9_seals0_10 rfl ?_
  obtain ⟨m3, g_m3, hf⟩ := bind_s hf
  refine vv_iast 12 dX9_seals0_11 rfl t_b1 g_m3 ?_
  refine vv_aload_n 13 dX9_seals0_12 rfl rfl ?_
  obtain ⟨b4, g_b4, hf⟩ := bind_s hf
  have t_b4 := (ldA_spec g_b4).2
  refine gf_RX9_35 16 dX9_seals0_13 rfl t_a0 (ldA_spec g_b4).1 ?_
  refine vv_iload_n 17 dX9_seals0_16 rfl rfl ?_
  refine vv_aload_n 18 dX9_seals0_17 rfl rfl ?_
  refine gf_RX9_149 21 dX9_seals0_18 rfl t_a0 ?_
  refine vv_l2i 22 dX9_seals0_21 rfl ?_
  obtain ⟨m5, g_m5, hf⟩ := bind_s hf
  refine vv_iast 23 dX9_seals0_22 rfl t_b4 g_m5 ?_
  refine vv_aload_n 24 dX9_seals0_23 rfl rfl ?_
  obtain ⟨b6, g_b6, hf⟩ := bind_s hf
  have t_b6 := (ldA_spec g_b6).2
  refine gf_RX9_19 27 dX9_seals0_24 rfl t_a0 (ldA_spec g_b6).1 ?_
  refine vv_sipush 30 (v := 200) dX9_seals0_27 rfl (by decide) ?_
  refine vv_iload_n 31 dX9_seals0_30 rfl rfl ?_
  refine vv_imul 32 dX9_seals0_31 rfl ?_
  refine vv_aload_n 33 dX9_seals0_32 rfl rfl ?_
  obtain ⟨b7, g_b7, hf⟩ := bind_s hf
  have t_b7 := (ldA_spec g_b7).2
  refine gf_RX9_22 36 dX9_seals0_33 rfl t_a0 (ldA_spec g_b7).1 ?_
  refine vv_iload_n 37 dX9_seals0_36 rfl rfl ?_
  obtain ⟨r8, g_r8, hf⟩ := bind_s hf
  refine vv_iald 38 dX9_seals0_37 rfl t_b7 g_r8 ?_
  refine vv_iadd 39 dX9_seals0_38 rfl ?_
  refine vv_aload_n 40 dX9_seals0_39 rfl rfl ?_
  refine vv_iload_n 41 dX9_seals0_40 rfl rfl ?_
  refine vv_aload_n 42 dX9_seals0_41 rfl rfl ?_
  obtain ⟨b9, g_b9, hf⟩ := bind_s hf
  have t_b9 := (ldA_spec g_b9).2
  refine gf_RX9_22 45 dX9_seals0_42 rfl t_a0 (ldA_spec g_b9).1 ?_
  refine vv_iload_n 46 dX9_seals0_45 rfl rfl ?_
  obtain ⟨r10, g_r10, hf⟩ := bind_s hf
  refine vv_iald 47 dX9_seals0_46 rfl t_b9 g_r10 ?_
  obtain ⟨q11, g_q11, hf⟩ := bind_s hf
  refine vv_callV 50 (st := [.int (((200 : Int32) * x1) + r8), .ref b6]) (As := [.int x1, .int r10]) (stk2 := [.int q11, .int (((200 : Int32) * x1) + r8), .ref b6]) (cl2 := 0) (sl2 := 0) dX9_seals0_47 rfl lk_RX9_200 w_1252 w_28 rfl t_a0 ⟨(Nat.le_of_ble_eq_true rfl), (Nat.le_of_ble_eq_true rfl)⟩ rfl rfl ⟨(Nat.le_of_ble_eq_true rfl), (Nat.le_of_ble_eq_true rfl)⟩ rfl (Nat.le_of_ble_eq_true rfl) rfl rfl rfl rfl (c_X9_checkOf t_a0 g_q11) ?_
  obtain ⟨m12, g_m12, hf⟩ := bind_s hf
  refine vv_iast 51 dX9_seals0_50 rfl t_b6 g_m12 ?_
  refine vv_aload_n 52 dX9_seals0_51 rfl rfl ?_
  obtain ⟨b13, g_b13, hf⟩ := bind_s hf
  have t_b13 := (ldA_spec g_b13).2
  refine gf_RX9_22 55 dX9_seals0_52 rfl t_a0 (ldA_spec g_b13).1 ?_
  refine vv_iload_n 56 dX9_seals0_55 rfl rfl ?_
  refine vv_dup2 57 dX9_seals0_56 rfl rfl rfl ?_
  obtain ⟨r14, g_r14, hf⟩ := bind_s hf
  refine vv_iald 58 dX9_seals0_57 rfl t_b13 g_r14 ?_
  refine vv_iconst 59 (v := 1) dX9_seals0_58 rfl (by decide) ?_
  refine vv_iadd 60 dX9_seals0_59 rfl ?_
  obtain ⟨m15, g_m15, hf⟩ := bind_s hf
  refine vv_iast 61 dX9_seals0_60 rfl t_b13 g_m15 ?_
  refine vv_aload_n 62 dX9_seals0_61 rfl rfl ?_
  obtain ⟨b16, g_b16, hf⟩ := bind_s hf
  have t_b16 := (ldA_spec g_b16).2
  refine gf_RX9_28 65 dX9_seals0_62 rfl t_a0 (ldA_spec g_b16).1 ?_
  refine vv_iload_n 66 dX9_seals0_65 rfl rfl ?_
  refine vv_iconst 67 (v := 1) dX9_seals0_66 rfl (by decide) ?_
  obtain ⟨m17, g_m17, hf⟩ := bind_s hf
  refine vv_zast 68 dX9_seals0_67 rfl t_b16 g_m17 ?_
  obtain rfl := Option.some.inj hf
  exact vv_vret dX9_seals0_68 rfl

theorem c_X9_seals0 {w : Wo} {K : Kn} {a0 : Nat} {x1 : Int32} {q : Mem} {m : Mem} (t_a0 : K a0 = some (.inl 8)) (hf : F_X9_seals0 K m a0 x1 = some q) : MM w K K yX9_seals0 cX9_seals0 2 none rm_X9_seals0 [.ref a0, .int x1] m none q 0 0 :=
  mm_of (ini := false) (n := 0) (plainFor_of_name (by decide)) rfl (fun h => by first | rfl | cases h) (Nat.le_of_ble_eq_true rfl) rfl (v_X9_seals0_0 t_a0 hf)

set_option maxHeartbeats 4000000 in
theorem v_X9_writesHead_46B {w : Wo} {K : Kn} {a0 : Nat} {x1 : Int32} {x2 : Int64} {x4 : Int64} {q : Mem} (t_a0 : K a0 = some (.inl 8)) (k46 : Mem → Int32 → Option Mem) (hk46 : ∀ (m : Mem) (x6 : Int32), k46 m x6 = some q → VV w RX9 cX9_writesHead 7 none rm_X9_writesHead false (QM w K none q 0 0) K 46 [some (.ref a0), some (.int x1), some (.long x2), none, some (.long x4), none, some (.int x6)] [] 0 0 m) {m : Mem} {x6 : Int32} (hf : f_X9_writesHead_46B K a0 x1 x2 x4 k46 m x6 = some q) : VV w RX9 cX9_writesHead 7 none rm_X9_writesHead false (QM w K none q 0 0) K 46 [some (.ref a0), some (.int x1), some (.long x2), none, some (.long x4), none, some (.int x6)] [] 0 0 m := by
  unfold f_X9_writesHead_46B at hf
  refine vv_iload 48 dX9_writesHead_46 rfl rfl ?_
  refine vv_bipush 50 (v := 8) dX9_writesHead_48 rfl (by decide) ?_
  refine vv_icmp_ge 90 53 dX9_writesHead_50 rfl (by decide) (fun c1 => ?_) (fun c1 => ?_)
  · rw [if_pos c1] at hf
    refine vv_aload_n 91 dX9_writesHead_90 rfl rfl ?_
    obtain ⟨b2, g_b2, hf⟩ := bind_s hf
    have t_b2 := (ldA_spec g_b2).2
    refine gf_RX9_19 94 dX9_writesHead_91 rfl t_a0 (ldA_spec g_b2).1 ?_
    refine vv_sipush 97 (v := 200) dX9_writesHead_94 rfl (by decide) ?_
    refine vv_iload_n 98 dX9_writesHead_97 rfl rfl ?_
    refine vv_imul 99 dX9_writesHead_98 rfl ?_
    refine vv_bipush 101 (v := 12) dX9_writesHead_99 rfl (by decide) ?_
    refine vv_iadd 102 dX9_writesHead_101 rfl ?_
    refine vv_iconst 103 (v := 0) dX9_writesHead_102 rfl (by decide) ?_
    obtain ⟨m3, g_m3, hf⟩ := bind_s hf
    refine vv_iast 104 dX9_writesHead_103 rfl t_b2 g_m3 ?_
    refine vv_aload_n 105 dX9_writesHead_104 rfl rfl ?_
    obtain ⟨b4, g_b4, hf⟩ := bind_s hf
    have t_b4 := (ldA_spec g_b4).2
    refine gf_RX9_19 108 dX9_writesHead_105 rfl t_a0 (ldA_spec g_b4).1 ?_
    refine vv_sipush 111 (v := 200) dX9_writesHead_108 rfl (by decide) ?_
    refine vv_iload_n 112 dX9_writesHead_111 rfl rfl ?_
    refine vv_imul 113 dX9_writesHead_112 rfl ?_
    refine vv_bipush 115 (v := 13) dX9_writesHead_113 rfl (by decide) ?_
    refine vv_iadd 116 dX9_writesHead_115 rfl ?_
    refine vv_iconst 117 (v := 1) dX9_writesHead_116 rfl (by decide) ?_
    obtain ⟨m5, g_m5, hf⟩ := bind_s hf
    refine vv_iast 118 dX9_writesHead_117 rfl t_b4 g_m5 ?_
    refine vv_aload_n 119 dX9_writesHead_118 rfl rfl ?_
    obtain ⟨b6, g_b6, hf⟩ := bind_s hf
    have t_b6 := (ldA_spec g_b6).2
    refine gf_RX9_25 122 dX9_writesHead_119 rfl t_a0 (ldA_spec g_b6).1 ?_
    refine vv_iload_n 123 dX9_writesHead_122 rfl rfl ?_
    refine vv_iconst 124 (v := 0) dX9_writesHead_123 rfl (by decide) ?_
    obtain ⟨m7, g_m7, hf⟩ := bind_s hf
    refine vv_iast 125 dX9_writesHead_124 rfl t_b6 g_m7 ?_
    refine vv_aload_n 126 dX9_writesHead_125 rfl rfl ?_
    obtain ⟨b8, g_b8, hf⟩ := bind_s hf
    have t_b8 := (ldA_spec g_b8).2
    refine gf_RX9_22 129 dX9_writesHead_126 rfl t_a0 (ldA_spec g_b8).1 ?_
    refine vv_iload_n 130 dX9_writesHead_129 rfl rfl ?_
    refine vv_bipush 132 (v := 14) dX9_writesHead_130 rfl (by decide) ?_
    obtain ⟨m9, g_m9, hf⟩ := bind_s hf
    refine vv_iast 133 dX9_writesHead_132 rfl t_b8 g_m9 ?_
    refine vv_aload_n 134 dX9_writesHead_133 rfl rfl ?_
    obtain ⟨b10, g_b10, hf⟩ := bind_s hf
    have t_b10 := (ldA_spec g_b10).2
    refine gf_RX9_28 137 dX9_writesHead_134 rfl t_a0 (ldA_spec g_b10).1 ?_
    refine vv_iload_n 138 dX9_writesHead_137 rfl rfl ?_
    refine vv_iconst 139 (v := 0) dX9_writesHead_138 rfl (by decide) ?_
    obtain ⟨m11, g_m11, hf⟩ := bind_s hf
    refine vv_zast 140 dX9_writesHead_139 rfl t_b10 g_m11 ?_
    refine vv_aload_n 141 dX9_writesHead_140 rfl rfl ?_
    refine vv_lload_n 142 dX9_writesHead_141 rfl rfl ?_
    refine vv_lload 144 dX9_writesHead_142 rfl rfl ?_
    obtain ⟨q12, g_q12, hf⟩ := bind_s hf
    refine vv_callV 147 (st := []) (As := [.long x2, .long x4]) (stk2 := []) (cl2 := 0) (sl2 := 0) dX9_writesHead_144 rfl lk_RX9_192 w_1264 w_31 rfl t_a0 ⟨(Nat.le_of_ble_eq_true rfl), (Nat.le_of_ble_eq_true rfl)⟩ rfl rfl ⟨(Nat.le_of_ble_eq_true rfl), (Nat.le_of_ble_eq_true rfl)⟩ rfl (Nat.le_of_ble_eq_true rfl) rfl rfl rfl rfl (c_X9_heads t_a0 g_q12) ?_
    obtain rfl := Option.some.inj hf
    exact vv_vret dX9_writesHead_147 rfl
  · rw [if_neg c1] at hf
    refine vv_aload_n 54 dX9_writesHead_53 rfl rfl ?_
    obtain ⟨b13, g_b13, hf⟩ := bind_s hf
    have t_b13 := (ldA_spec g_b13).2
    refine gf_RX9_19 57 dX9_writesHead_54 rfl t_a0 (ldA_spec g_b13).1 ?_
    refine vv_sipush 60 (v := 200) dX9_writesHead_57 rfl (by decide) ?_
    refine vv_iload_n 61 dX9_writesHead_60 rfl rfl ?_
    refine vv_imul 62 dX9_writesHead_61 rfl ?_
    refine vv_iconst 63 (v := 4) dX9_writesHead_62 rfl (by decide) ?_
    refine vv_iadd 64 dX9_writesHead_63 rfl ?_
    refine vv_iload 66 dX9_writesHead_64 rfl rfl ?_
    refine vv_iadd 67 dX9_writesHead_66 rfl ?_
    refine vv_lload 69 dX9_writesHead_67 rfl rfl ?_
    refine vv_bipush 71 (v := 56) dX9_writesHead_69 rfl (by decide) ?_
    refine vv_bipush 73 (v := 8) dX9_writesHead_71 rfl (by decide) ?_
    refine vv_iload 75 dX9_writesHead_73 rfl rfl ?_
    refine vv_imul 76 dX9_writesHead_75 rfl ?_
    refine vv_isub 77 dX9_writesHead_76 rfl ?_
    refine vv_lshr 78 dX9_writesHead_77 rfl ?_
    refine vv_ldc2 81 (v := 255) dX9_writesHead_78 rfl w_1341 ?_
    refine vv_land 82 dX9_writesHead_81 rfl ?_
    refine vv_l2i 83 dX9_writesHead_82 rfl ?_
    obtain ⟨m14, g_m14, hf⟩ := bind_s hf
    refine vv_iast 84 dX9_writesHead_83 rfl t_b13 g_m14 ?_
    obtain ⟨z15, e_z15, hf⟩ := bd_s hf
    refine vv_iincE (q := 87) (v := z15) (c := 1) (L' := [some (.ref a0), some (.int x1), some (.long x2), none, some (.long x4), none, some (.int z15)]) e_z15 dX9_writesHead_84 rfl rfl (by decide) (Nat.le_of_ble_eq_true rfl) rfl ?_
    refine vv_goto 46 dX9_writesHead_87 (by decide) ?_
    exact hk46 _ _ hf

theorem v_X9_writesHead_46 {w : Wo} {K : Kn} {a0 : Nat} {x1 : Int32} {x2 : Int64} {x4 : Int64} {q : Mem} (t_a0 : K a0 = some (.inl 8)) : ∀ (n : Nat) (m : Mem) (x6 : Int32), f_X9_writesHead_46 K a0 x1 x2 x4 n m x6 = some q → VV w RX9 cX9_writesHead 7 none rm_X9_writesHead false (QM w K none q 0 0) K 46 [some (.ref a0), some (.int x1), some (.long x2), none, some (.long x4), none, some (.int x6)] [] 0 0 m := by
  intro n
  induction n with
  | zero => intro m x6 hf; cases hf
  | succ n ih => intro m x6 hf; exact v_X9_writesHead_46B (a0 := a0) (x1 := x1) (x2 := x2) (x4 := x4) t_a0 (f_X9_writesHead_46 K a0 x1 x2 x4 n) ih hf

set_option maxHeartbeats 4000000 in
theorem v_X9_writesHead_3B {w : Wo} {K : Kn} {a0 : Nat} {x1 : Int32} {x2 : Int64} {x4 : Int64} {q : Mem} (t_a0 : K a0 = some (.inl 8)) (k3 : Mem → Int32 → Option Mem) (hk3 : ∀ (m : Mem) (x6 : Int32), k3 m x6 = some q → VV w RX9 cX9_writesHead 7 none rm_X9_writesHead false (QM w K none q 0 0) K 3 [some (.ref a0), some (.int x1), some (.long x2), none, some (.long x4), none, some (.int x6)] [] 0 0 m) {m : Mem} {x6 : Int32} (hf : f_X9_writesHead_3B K a0 x1 x2 x4 k3 m x6 = some q) : VV w RX9 cX9_writesHead 7 none rm_X9_writesHead false (QM w K none q 0 0) K 3 [some (.ref a0), some (.int x1), some (.long x2), none, some (.long x4), none, some (.int x6)] [] 0 0 m := by
  unfold f_X9_writesHead_3B at hf
  refine vv_iload 5 dX9_writesHead_3 rfl rfl ?_
  refine vv_iconst 6 (v := 4) dX9_writesHead_5 rfl (by decide) ?_
  refine vv_icmp_ge 43 9 dX9_writesHead_6 rfl (by decide) (fun c1 => ?_) (fun c1 => ?_)
  · rw [if_pos c1] at hf
    refine vv_iconst 44 (v := 0) dX9_writesHead_43 rfl (by decide) ?_
    refine vv_istore 46 (L' := [some (.ref a0), some (.int x1), some (.long x2), none, some (.long x4), none, some (.int (0 : Int32))]) dX9_writesHead_44 rfl (Nat.le_of_ble_eq_true rfl) rfl ?_
    exact v_X9_writesHead_46 t_a0 FU _ _ hf
  · rw [if_neg c1] at hf
    refine vv_aload_n 10 dX9_writesHead_9 rfl rfl ?_
    obtain ⟨b2, g_b2, hf⟩ := bind_s hf
    have t_b2 := (ldA_spec g_b2).2
    refine gf_RX9_19 13 dX9_writesHead_10 rfl t_a0 (ldA_spec g_b2).1 ?_
    refine vv_sipush 16 (v := 200) dX9_writesHead_13 rfl (by decide) ?_
    refine vv_iload_n 17 dX9_writesHead_16 rfl rfl ?_
    refine vv_imul 18 dX9_writesHead_17 rfl ?_
    refine vv_iload 20 dX9_writesHead_18 rfl rfl ?_
    refine vv_iadd 21 dX9_writesHead_20 rfl ?_
    refine vv_lload_n 22 dX9_writesHead_21 rfl rfl ?_
    refine vv_bipush 24 (v := 24) dX9_writesHead_22 rfl (by decide) ?_
    refine vv_bipush 26 (v := 8) dX9_writesHead_24 rfl (by decide) ?_
    refine vv_iload 28 dX9_writesHead_26 rfl rfl ?_
    refine vv_imul 29 dX9_writesHead_28 rfl ?_
    refine vv_isub 30 dX9_writesHead_29 rfl ?_
    refine vv_lshr 31 dX9_writesHead_30 rfl ?_
    refine vv_ldc2 34 (v := 255) dX9_writesHead_31 rfl w_1341 ?_
    refine vv_land 35 dX9_writesHead_34 rfl ?_
    refine vv_l2i 36 dX9_writesHead_35 rfl ?_
    obtain ⟨m3, g_m3, hf⟩ := bind_s hf
    refine vv_iast 37 dX9_writesHead_36 rfl t_b2 g_m3 ?_
    obtain ⟨z4, e_z4, hf⟩ := bd_s hf
    refine vv_iincE (q := 40) (v := z4) (c := 1) (L' := [some (.ref a0), some (.int x1), some (.long x2), none, some (.long x4), none, some (.int z4)]) e_z4 dX9_writesHead_37 rfl rfl (by decide) (Nat.le_of_ble_eq_true rfl) rfl ?_
    refine vv_goto 3 dX9_writesHead_40 (by decide) ?_
    exact hk3 _ _ hf

theorem v_X9_writesHead_3 {w : Wo} {K : Kn} {a0 : Nat} {x1 : Int32} {x2 : Int64} {x4 : Int64} {q : Mem} (t_a0 : K a0 = some (.inl 8)) : ∀ (n : Nat) (m : Mem) (x6 : Int32), f_X9_writesHead_3 K a0 x1 x2 x4 n m x6 = some q → VV w RX9 cX9_writesHead 7 none rm_X9_writesHead false (QM w K none q 0 0) K 3 [some (.ref a0), some (.int x1), some (.long x2), none, some (.long x4), none, some (.int x6)] [] 0 0 m := by
  intro n
  induction n with
  | zero => intro m x6 hf; cases hf
  | succ n ih => intro m x6 hf; exact v_X9_writesHead_3B (a0 := a0) (x1 := x1) (x2 := x2) (x4 := x4) t_a0 (f_X9_writesHead_3 K a0 x1 x2 x4 n) ih hf

set_option maxHeartbeats 4000000 in
theorem v_X9_writesHead_0 {w : Wo} {K : Kn} {a0 : Nat} {x1 : Int32} {x2 : Int64} {x4 : Int64} {q : Mem} (t_a0 : K a0 = some (.inl 8)) {m : Mem} (hf : f_X9_writesHead K a0 x1 x2 x4 m = some q) : VV w RX9 cX9_writesHead 7 none rm_X9_writesHead false (QM w K none q 0 0) K 0 [some (.ref a0), some (.int x1), some (.long x2), none, some (.long x4), none, none] [] 0 0 m := by
  unfold f_X9_writesHead at hf
  refine vv_iconst 1 (v := 0) dX9_writesHead_0 rfl (by decide) ?_
  refine vv_istore 3 (L' := [some (.ref a0), some (.int x1), some (.long x2), none, some (.long x4), none, some (.int (0 : Int32))]) dX9_writesHead_1 rfl (Nat.le_of_ble_eq_true rfl) rfl ?_
  exact v_X9_writesHead_3 t_a0 FU _ _ hf

theorem c_X9_writesHead {w : Wo} {K : Kn} {a0 : Nat} {x1 : Int32} {x2 : Int64} {x4 : Int64} {q : Mem} {m : Mem} (t_a0 : K a0 = some (.inl 8)) (hf : F_X9_writesHead K m a0 x1 x2 x4 = some q) : MM w K K yX9_writesHead cX9_writesHead 7 none rm_X9_writesHead [.ref a0, .int x1, .long x2, .long x4] m none q 0 0 :=
  mm_of (ini := false) (n := 1) (plainFor_of_name (by decide)) rfl (fun h => by first | rfl | cases h) (Nat.le_of_ble_eq_true rfl) rfl (v_X9_writesHead_0 t_a0 hf)

set_option maxHeartbeats 4000000 in
theorem v_X9_comes_113 {w : Wo} {K : Kn} {a0 : Nat} {x1 : Int32} {x2 : Int64} {x4 : Int64} {q : (Int32 × Mem)} (t_a0 : K a0 = some (.inl 8)) {m : Mem} (hf : f_X9_comes_113 K a0 x1 x2 x4 m = some q) : VV w RX9 cX9_comes 8 (some .boolean) rm_X9_comes false (QM w K (some (.int q.1)) q.2 0 0) K 113 [some (.ref a0), some (.int x1), some (.long x2), none, some (.long x4), none, none, none] [] 0 0 m := by
  unfold f_X9_comes_113 at hf
  refine vv_aload_n 114 dX9_comes_113 rfl rfl ?_
  obtain ⟨b1, g_b1, hf⟩ := bind_s hf
  have t_b1 := (ldA_spec g_b1).2
  refine gf_RX9_16 117 dX9_comes_114 rfl t_a0 (ldA_spec g_b1).1 ?_
  refine vv_iload_n 118 dX9_comes_117 rfl rfl ?_
  refine vv_dup2 119 dX9_comes_118 rfl rfl rfl ?_
  obtain ⟨r2, g_r2, hf⟩ := bind_s hf
  refine vv_iald 120 dX9_comes_119 rfl t_b1 g_r2 ?_
  refine vv_iconst 121 (v := 1) dX9_comes_120 rfl (by decide) ?_
  refine vv_iadd 122 dX9_comes_121 rfl ?_
  obtain ⟨m3, g_m3, hf⟩ := bind_s hf
  refine vv_iast 123 dX9_comes_122 rfl t_b1 g_m3 ?_
  refine vv_aload_n 124 dX9_comes_123 rfl rfl ?_
  refine vv_bipush 126 (v := 16) dX9_comes_124 rfl (by decide) ?_
  refine vv_iload_n 127 dX9_comes_126 rfl rfl ?_
  refine vv_imul 128 dX9_comes_127 rfl ?_
  refine vv_aload_n 129 dX9_comes_128 rfl rfl ?_
  obtain ⟨b4, g_b4, hf⟩ := bind_s hf
  have t_b4 := (ldA_spec g_b4).2
  refine gf_RX9_16 132 dX9_comes_129 rfl t_a0 (ldA_spec g_b4).1 ?_
  refine vv_iload_n 133 dX9_comes_132 rfl rfl ?_
  obtain ⟨r5, g_r5, hf⟩ := bind_s hf
  refine vv_iald 134 dX9_comes_133 rfl t_b4 g_r5 ?_
  refine vv_iadd 135 dX9_comes_134 rfl ?_
  refine vv_iconst 136 (v := 1) dX9_comes_135 rfl (by decide) ?_
  refine vv_isub 137 dX9_comes_136 rfl ?_
  refine vv_lload_n 138 dX9_comes_137 rfl rfl ?_
  refine vv_lload 140 dX9_comes_138 rfl rfl ?_
  obtain ⟨q6, g_q6, hf⟩ := bind_s hf
  refine vv_callV 143 (st := []) (As := [.int ((((16 : Int32) * x1) + r5) - (1 : Int32)), .long x2, .long x4]) (stk2 := []) (cl2 := 0) (sl2 := 0) dX9_comes_140 rfl lk_RX9_265 w_1339 w_42 rfl t_a0 ⟨(Nat.le_of_ble_eq_true rfl), (Nat.le_of_ble_eq_true rfl)⟩ rfl rfl ⟨(Nat.le_of_ble_eq_true rfl), (Nat.le_of_ble_eq_true rfl)⟩ rfl (Nat.le_of_ble_eq_true rfl) rfl rfl rfl rfl (c_X9_writesHead t_a0 g_q6) ?_
  refine vv_iconst 144 (v := 1) dX9_comes_143 rfl (by decide) ?_
  obtain rfl := Option.some.inj hf
  exact vv_zret dX9_comes_144 rfl (Or.inr rfl)

set_option maxHeartbeats 4000000 in
theorem v_X9_comes_89 {w : Wo} {K : Kn} {a0 : Nat} {x1 : Int32} {x2 : Int64} {x4 : Int64} {q : (Int32 × Mem)} (t_a0 : K a0 = some (.inl 8)) {m : Mem} {x6 : Int32} {x7 : Int32} (hf : f_X9_comes_89 K a0 x1 x2 x4 m x6 x7 = some q) : VV w RX9 cX9_comes 8 (some .boolean) rm_X9_comes false (QM w K (some (.int q.1)) q.2 0 0) K 89 [some (.ref a0), some (.int x1), some (.long x2), none, some (.long x4), none, some (.int x6), some (.int x7)] [] 0 0 m := by
  unfold f_X9_comes_89 at hf
  refine vv_aload_n 90 dX9_comes_89 rfl rfl ?_
  obtain ⟨b1, g_b1, hf⟩ := bind_s hf
  have t_b1 := (ldA_spec g_b1).2
  refine gf_RX9_16 93 dX9_comes_90 rfl t_a0 (ldA_spec g_b1).1 ?_
  refine vv_iload_n 94 dX9_comes_93 rfl rfl ?_
  obtain ⟨r2, g_r2, hf⟩ := bind_s hf
  refine vv_iald 95 dX9_comes_94 rfl t_b1 g_r2 ?_
  refine vv_bipush 97 (v := 16) dX9_comes_95 rfl (by decide) ?_
  refine vv_icmp_ne 102 100 dX9_comes_97 rfl (by decide) (fun c3 => ?_) (fun c3 => ?_)
  · rw [if_pos c3] at hf
    refine vv_iconst 101 (v := 0) dX9_comes_100 rfl (by decide) ?_
    obtain rfl := Option.some.inj hf
    exact vv_zret dX9_comes_101 rfl (Or.inl rfl)
  · rw [if_neg c3] at hf
    refine vv_iload 104 dX9_comes_102 rfl rfl ?_
    refine vv_if_eq 113 107 dX9_comes_104 rfl (by decide) (fun c4 => ?_) (fun c4 => ?_)
    · rw [if_pos c4] at hf
      exact VV.lle (v_X9_comes_113 t_a0 hf) (lle_s (lle_s (lle_s (lle_s (lle_s (lle_s (lle_n (lle_n lle_nil))))))))
    · rw [if_neg c4] at hf
      refine vv_aload_n 108 dX9_comes_107 rfl rfl ?_
      refine vv_iload 110 dX9_comes_108 rfl rfl ?_
      obtain ⟨q5, g_q5, hf⟩ := bind_s hf
      refine vv_callV 113 (st := []) (As := [.int x6]) (stk2 := []) (cl2 := 0) (sl2 := 0) dX9_comes_110 rfl lk_RX9_262 w_1335 w_41 rfl t_a0 ⟨(Nat.le_of_ble_eq_true rfl), (Nat.le_of_ble_eq_true rfl)⟩ rfl rfl ⟨(Nat.le_of_ble_eq_true rfl), (Nat.le_of_ble_eq_true rfl)⟩ rfl (Nat.le_of_ble_eq_true rfl) rfl rfl rfl rfl (c_X9_seals0 t_a0 g_q5) ?_
      exact VV.lle (v_X9_comes_113 t_a0 hf) (lle_s (lle_s (lle_s (lle_s (lle_s (lle_s (lle_n (lle_n lle_nil))))))))

set_option maxHeartbeats 4000000 in
theorem v_X9_comes_39 {w : Wo} {K : Kn} {a0 : Nat} {x1 : Int32} {x2 : Int64} {x4 : Int64} {q : (Int32 × Mem)} (t_a0 : K a0 = some (.inl 8)) {m : Mem} {x6 : Int32} {s0 : Int32} (hf : f_X9_comes_39 K a0 x1 x2 x4 m x6 s0 = some q) : VV w RX9 cX9_comes 8 (some .boolean) rm_X9_comes false (QM w K (some (.int q.1)) q.2 0 0) K 39 [some (.ref a0), some (.int x1), some (.long x2), none, some (.long x4), none, some (.int x6), none] [.int s0] 0 0 m := by
  unfold f_X9_comes_39 at hf
  refine vv_istore 41 (L' := [some (.ref a0), some (.int x1), some (.long x2), none, some (.long x4), none, some (.int x6), some (.int s0)]) dX9_comes_39 rfl (Nat.le_of_ble_eq_true rfl) rfl ?_
  refine vv_iload 43 dX9_comes_41 rfl rfl ?_
  refine vv_if_eq 89 46 dX9_comes_43 rfl (by decide) (fun c1 => ?_) (fun c1 => ?_)
  · rw [if_pos c1] at hf
    exact v_X9_comes_89 t_a0 hf
  · rw [if_neg c1] at hf
    refine vv_bipush 48 (v := 14) dX9_comes_46 rfl (by decide) ?_
    refine vv_aload_n 49 dX9_comes_48 rfl rfl ?_
    refine gf_RX9_175 52 dX9_comes_49 rfl t_a0 ?_
    refine vv_aload_n 53 dX9_comes_52 rfl rfl ?_
    refine vv_lload_n 54 dX9_comes_53 rfl rfl ?_
    refine vv_lload 56 dX9_comes_54 rfl rfl ?_
    obtain ⟨q2, g_q2, hf⟩ := bind_s hf
    refine vv_callV 59 (st := [.int (gI m a0 20), .int (14 : Int32)]) (As := [.long x2, .long x4]) (stk2 := [.int q2, .int (gI m a0 20), .int (14 : Int32)]) (cl2 := 0) (sl2 := 0) dX9_comes_56 rfl lk_RX9_254 w_1314 w_38 rfl t_a0 ⟨(Nat.le_of_ble_eq_true rfl), (Nat.le_of_ble_eq_true rfl)⟩ rfl rfl ⟨(Nat.le_of_ble_eq_true rfl), (Nat.le_of_ble_eq_true rfl)⟩ rfl (Nat.le_of_ble_eq_true rfl) rfl rfl rfl rfl (c_X9_takesBits t_a0 g_q2) ?_
    refine vv_iadd 60 dX9_comes_59 rfl ?_
    refine vv_bipush 62 (v := 7) dX9_comes_60 rfl (by decide) ?_
    refine vv_iadd 63 dX9_comes_62 rfl ?_
    refine vv_bipush 65 (v := 8) dX9_comes_63 rfl (by decide) ?_
    refine vv_idiv 66 dX9_comes_65 rfl (by decide) ?_
    refine vv_iadd 67 dX9_comes_66 rfl ?_
    refine vv_iconst 68 (v := 1) dX9_comes_67 rfl (by decide) ?_
    refine vv_iadd 69 dX9_comes_68 rfl ?_
    refine vv_aload_n 70 dX9_comes_69 rfl rfl ?_
    obtain ⟨b3, g_b3, hf⟩ := bind_s hf
    have t_b3 := (ldA_spec g_b3).2
    refine gf_RX9_7 73 dX9_comes_70 rfl t_a0 (ldA_spec g_b3).1 ?_
    refine vv_iload_n 74 dX9_comes_73 rfl rfl ?_
    obtain ⟨r4, g_r4, hf⟩ := bind_s hf
    refine vv_iald 75 dX9_comes_74 rfl t_b3 g_r4 ?_
    refine vv_icmp_gt 89 78 dX9_comes_75 rfl (by decide) (fun c5 => ?_) (fun c5 => ?_)
    · rw [if_pos c5] at hf
      exact v_X9_comes_89 t_a0 hf
    · rw [if_neg c5] at hf
      refine vv_aload_n 79 dX9_comes_78 rfl rfl ?_
      refine vv_iload 81 dX9_comes_79 rfl rfl ?_
      refine vv_lload_n 82 dX9_comes_81 rfl rfl ?_
      refine vv_lload 84 dX9_comes_82 rfl rfl ?_
      obtain ⟨q6, g_q6, hf⟩ := bind_s hf
      refine vv_callV 87 (st := []) (As := [.int x6, .long x2, .long x4]) (stk2 := []) (cl2 := 0) (sl2 := 0) dX9_comes_84 rfl lk_RX9_258 w_1324 w_39 rfl t_a0 ⟨(Nat.le_of_ble_eq_true rfl), (Nat.le_of_ble_eq_true rfl)⟩ rfl rfl ⟨(Nat.le_of_ble_eq_true rfl), (Nat.le_of_ble_eq_true rfl)⟩ rfl (Nat.le_of_ble_eq_true rfl) rfl rfl rfl rfl (c_X9_writes t_a0 g_q6) ?_
      refine vv_iconst 88 (v := 1) dX9_comes_87 rfl (by decide) ?_
      obtain rfl := Option.some.inj hf
      exact vv_zret dX9_comes_88 rfl (Or.inr rfl)

set_option maxHeartbeats 4000000 in
theorem v_X9_comes_38 {w : Wo} {K : Kn} {a0 : Nat} {x1 : Int32} {x2 : Int64} {x4 : Int64} {q : (Int32 × Mem)} (t_a0 : K a0 = some (.inl 8)) {m : Mem} {x6 : Int32} (hf : f_X9_comes_38 K a0 x1 x2 x4 m x6 = some q) : VV w RX9 cX9_comes 8 (some .boolean) rm_X9_comes false (QM w K (some (.int q.1)) q.2 0 0) K 38 [some (.ref a0), some (.int x1), some (.long x2), none, some (.long x4), none, some (.int x6), none] [] 0 0 m := by
  unfold f_X9_comes_38 at hf
  refine vv_iconst 39 (v := 0) dX9_comes_38 rfl (by decide) ?_
  exact v_X9_comes_39 t_a0 hf

set_option maxHeartbeats 4000000 in
theorem v_X9_comes_0 {w : Wo} {K : Kn} {a0 : Nat} {x1 : Int32} {x2 : Int64} {x4 : Int64} {q : (Int32 × Mem)} (t_a0 : K a0 = some (.inl 8)) {m : Mem} (hf : f_X9_comes K a0 x1 x2 x4 m = some q) : VV w RX9 cX9_comes 8 (some .boolean) rm_X9_comes false (QM w K (some (.int q.1)) q.2 0 0) K 0 [some (.ref a0), some (.int x1), some (.long x2), none, some (.long x4), none, none, none] [] 0 0 m := by
  unfold f_X9_comes at hf
  refine vv_bipush 2 (v := 16) dX9_comes_0 rfl (by decide) ?_
  refine vv_iload_n 3 dX9_comes_2 rfl rfl ?_
  refine vv_imul 4 dX9_comes_3 rfl ?_
  refine vv_aload_n 5 dX9_comes_4 rfl rfl ?_
  obtain ⟨b1, g_b1, hf⟩ := bind_s hf
  have t_b1 := (ldA_spec g_b1).2
  refine gf_RX9_16 8 dX9_comes_5 rfl t_a0 (ldA_spec g_b1).1 ?_
  refine vv_iload_n 9 dX9_comes_8 rfl rfl ?_
  obtain ⟨r2, g_r2, hf⟩ := bind_s hf
  refine vv_iald 10 dX9_comes_9 rfl t_b1 g_r2 ?_
  refine vv_iadd 11 dX9_comes_10 rfl ?_
  refine vv_iconst 12 (v := 1) dX9_comes_11 rfl (by decide) ?_
  refine vv_isub 13 dX9_comes_12 rfl ?_
  obtain ⟨z3, e_z3, hf⟩ := bd_s hf
  refine vv_istoreE (q := 15) (v := z3) (L' := [some (.ref a0), some (.int x1), some (.long x2), none, some (.long x4), none, some (.int z3), none]) e_z3 dX9_comes_13 rfl (Nat.le_of_ble_eq_true rfl) rfl ?_
  refine vv_aload_n 16 dX9_comes_15 rfl rfl ?_
  obtain ⟨b4, g_b4, hf⟩ := bind_s hf
  have t_b4 := (ldA_spec g_b4).2
  refine gf_RX9_16 19 dX9_comes_16 rfl t_a0 (ldA_spec g_b4).1 ?_
  refine vv_iload_n 20 dX9_comes_19 rfl rfl ?_
  obtain ⟨r5, g_r5, hf⟩ := bind_s hf
  refine vv_iald 21 dX9_comes_20 rfl t_b4 g_r5 ?_
  refine vv_if_le 38 24 dX9_comes_21 rfl (by decide) (fun c6 => ?_) (fun c6 => ?_)
  · rw [if_pos c6] at hf
    exact v_X9_comes_38 t_a0 hf
  · rw [if_neg c6] at hf
    refine vv_aload_n 25 dX9_comes_24 rfl rfl ?_
    obtain ⟨b7, g_b7, hf⟩ := bind_s hf
    have t_b7 := (ldA_spec g_b7).2
    refine gf_RX9_28 28 dX9_comes_25 rfl t_a0 (ldA_spec g_b7).1 ?_
    refine vv_iload 30 dX9_comes_28 rfl rfl ?_
    obtain ⟨r8, g_r8, hf⟩ := bind_s hf
    refine vv_zald 31 dX9_comes_30 rfl t_b7 g_r8 ?_
    refine vv_if_ne 38 34 dX9_comes_31 rfl (by decide) (fun c9 => ?_) (fun c9 => ?_)
    · rw [if_pos c9] at hf
      refine vv_iconst 35 (v := 1) dX9_comes_34 rfl (by decide) ?_
      refine vv_goto 39 dX9_comes_35 (by decide) ?_
      exact v_X9_comes_39 t_a0 hf
    · rw [if_neg c9] at hf
      exact v_X9_comes_38 t_a0 hf

theorem c_X9_comes {w : Wo} {K : Kn} {a0 : Nat} {x1 : Int32} {x2 : Int64} {x4 : Int64} {q : (Int32 × Mem)} {m : Mem} (t_a0 : K a0 = some (.inl 8)) (hf : F_X9_comes K m a0 x1 x2 x4 = some q) : MM w K K yX9_comes cX9_comes 8 (some .boolean) rm_X9_comes [.ref a0, .int x1, .long x2, .long x4] m (some (.int q.1)) q.2 0 0 :=
  mm_of (ini := false) (n := 2) (plainFor_of_name (by decide)) rfl (fun h => by first | rfl | cases h) (Nat.le_of_ble_eq_true rfl) rfl (v_X9_comes_0 t_a0 hf)

set_option maxHeartbeats 4000000 in
theorem v_X9_add_0 {w : Wo} {K : Kn} {a0 : Nat} {x1 : Int32} {x2 : Int32} {x3 : Int64} {q : (Int32 × Mem)} (t_a0 : K a0 = some (.inl 8)) {m : Mem} (hf : f_X9_add K a0 x1 x2 x3 m = some q) : VV w RX9 cX9_add 5 (some .int) rm_X9_add false (QM w K (some (.int q.1)) q.2 0 0) K 0 [some (.ref a0), some (.int x1), some (.int x2), some (.long x3), none] [] 0 0 m := by
  unfold f_X9_add at hf
  refine vv_aload_n 1 dX9_add_0 rfl rfl ?_
  refine vv_iload_n 2 dX9_add_1 rfl rfl ?_
  obtain ⟨q1, g_q1, hf⟩ := bind_s hf
  refine vv_callV 5 (st := []) (As := [.int x1]) (stk2 := [.int q1]) (cl2 := 0) (sl2 := 0) dX9_add_2 rfl lk_RX9_87 w_1220 w_21 rfl t_a0 ⟨(Nat.le_of_ble_eq_true rfl), (Nat.le_of_ble_eq_true rfl)⟩ rfl rfl ⟨(Nat.le_of_ble_eq_true rfl), (Nat.le_of_ble_eq_true rfl)⟩ rfl (Nat.le_of_ble_eq_true rfl) rfl rfl rfl rfl (c_X9_isSeries t_a0 g_q1) ?_
  refine vv_if_eq 15 8 dX9_add_5 rfl (by decide) (fun c2 => ?_) (fun c2 => ?_)
  · rw [if_pos c2] at hf
    refine vv_bipush 17 (v := (-2)) dX9_add_15 rfl (by decide) ?_
    obtain rfl := Option.some.inj hf
    exact vv_iret dX9_add_17 rfl
  · rw [if_neg c2] at hf
    refine vv_iload_n 9 dX9_add_8 rfl rfl ?_
    obtain ⟨q3, g_q3, hf⟩ := bind_s hf
    refine vv_callS 12 (st := []) (As := [.int x2]) (stk2 := [.int q3]) (cl2 := 0) (sl2 := 0) dX9_add_9 rfl lk_RX9_278 w_1223 ⟨(Nat.le_of_ble_eq_true rfl), (Nat.le_of_ble_eq_true rfl)⟩ rfl rfl ⟨(Nat.le_of_ble_eq_true rfl), (Nat.le_of_ble_eq_true rfl)⟩ rfl (Nat.le_of_ble_eq_true rfl) rfl rfl rfl rfl (c_X9_isStamp g_q3) ?_
    refine vv_if_ne 18 15 dX9_add_12 rfl (by decide) (fun c4 => ?_) (fun c4 => ?_)
    · rw [if_pos c4] at hf
      refine vv_bipush 17 (v := (-2)) dX9_add_15 rfl (by decide) ?_
      obtain rfl := Option.some.inj hf
      exact vv_iret dX9_add_17 rfl
    · rw [if_neg c4] at hf
      refine vv_aload_n 19 dX9_add_18 rfl rfl ?_
      refine vv_iload_n 20 dX9_add_19 rfl rfl ?_
      refine vv_iload_n 21 dX9_add_20 rfl rfl ?_
      obtain ⟨q5, g_q5, hf⟩ := bind_s hf
      refine vv_callV 24 (st := []) (As := [.int x1, .int x2]) (stk2 := [.int q5]) (cl2 := 0) (sl2 := 0) dX9_add_21 rfl lk_RX9_281 w_1228 w_22 rfl t_a0 ⟨(Nat.le_of_ble_eq_true rfl), (Nat.le_of_ble_eq_true rfl)⟩ rfl rfl ⟨(Nat.le_of_ble_eq_true rfl), (Nat.le_of_ble_eq_true rfl)⟩ rfl (Nat.le_of_ble_eq_true rfl) rfl rfl rfl rfl (c_X9_isAbove t_a0 g_q5) ?_
      refine vv_if_ne 30 27 dX9_add_24 rfl (by decide) (fun c6 => ?_) (fun c6 => ?_)
      · rw [if_pos c6] at hf
        refine vv_bipush 29 (v := (-5)) dX9_add_27 rfl (by decide) ?_
        obtain rfl := Option.some.inj hf
        exact vv_iret dX9_add_29 rfl
      · rw [if_neg c6] at hf
        refine vv_aload_n 31 dX9_add_30 rfl rfl ?_
        refine vv_iload_n 32 dX9_add_31 rfl rfl ?_
        obtain ⟨q7, g_q7, hf⟩ := bind_s hf
        refine vv_callV 35 (st := []) (As := [.int x1]) (stk2 := []) (cl2 := 0) (sl2 := 0) dX9_add_32 rfl lk_RX9_285 w_1232 w_23 rfl t_a0 ⟨(Nat.le_of_ble_eq_true rfl), (Nat.le_of_ble_eq_true rfl)⟩ rfl rfl ⟨(Nat.le_of_ble_eq_true rfl), (Nat.le_of_ble_eq_true rfl)⟩ rfl (Nat.le_of_ble_eq_true rfl) rfl rfl rfl rfl (c_X9_opens t_a0 g_q7) ?_
        refine vv_aload_n 36 dX9_add_35 rfl rfl ?_
        refine vv_iload_n 37 dX9_add_36 rfl rfl ?_
        refine vv_iload_n 38 dX9_add_37 rfl rfl ?_
        refine vv_i2l 39 dX9_add_38 rfl ?_
        refine vv_lload_n 40 dX9_add_39 rfl rfl ?_
        obtain ⟨q8, g_q8, hf⟩ := bind_s hf
        refine vv_callV 43 (st := []) (As := [.int x1, .long ((x2).toInt64), .long x3]) (stk2 := [.int q8.1]) (cl2 := 0) (sl2 := 0) dX9_add_40 rfl lk_RX9_268 w_1310 w_37 rfl t_a0 ⟨(Nat.le_of_ble_eq_true rfl), (Nat.le_of_ble_eq_true rfl)⟩ rfl rfl ⟨(Nat.le_of_ble_eq_true rfl), (Nat.le_of_ble_eq_true rfl)⟩ rfl (Nat.le_of_ble_eq_true rfl) rfl rfl rfl rfl (c_X9_comes t_a0 g_q8) ?_
        refine vv_if_ne 49 46 dX9_add_43 rfl (by decide) (fun c9 => ?_) (fun c9 => ?_)
        · rw [if_pos c9] at hf
          refine vv_bipush 48 (v := (-4)) dX9_add_46 rfl (by decide) ?_
          obtain rfl := Option.some.inj hf
          exact vv_iret dX9_add_48 rfl
        · rw [if_neg c9] at hf
          refine vv_aload_n 50 dX9_add_49 rfl rfl ?_
          obtain ⟨b10, g_b10, hf⟩ := bind_s hf
          have t_b10 := (ldA_spec g_b10).2
          refine gf_RX9_13 53 dX9_add_50 rfl t_a0 (ldA_spec g_b10).1 ?_
          refine vv_iload_n 54 dX9_add_53 rfl rfl ?_
          refine vv_iload_n 55 dX9_add_54 rfl rfl ?_
          obtain ⟨m11, g_m11, hf⟩ := bind_s hf
          refine vv_iast 56 dX9_add_55 rfl t_b10 g_m11 ?_
          refine vv_aload_n 57 dX9_add_56 rfl rfl ?_
          obtain ⟨b12, g_b12, hf⟩ := bind_s hf
          have t_b12 := (ldA_spec g_b12).2
          refine gf_RX9_16 60 dX9_add_57 rfl t_a0 (ldA_spec g_b12).1 ?_
          refine vv_iload_n 61 dX9_add_60 rfl rfl ?_
          obtain ⟨r13, g_r13, hf⟩ := bind_s hf
          refine vv_iald 62 dX9_add_61 rfl t_b12 g_r13 ?_
          refine vv_iconst 63 (v := 1) dX9_add_62 rfl (by decide) ?_
          refine vv_isub 64 dX9_add_63 rfl ?_
          obtain rfl := Option.some.inj hf
          exact vv_iret dX9_add_64 rfl

theorem c_X9_add {w : Wo} {K : Kn} {a0 : Nat} {x1 : Int32} {x2 : Int32} {x3 : Int64} {q : (Int32 × Mem)} {m : Mem} (t_a0 : K a0 = some (.inl 8)) (hf : F_X9_add K m a0 x1 x2 x3 = some q) : MM w K K yX9_add cX9_add 5 (some .int) rm_X9_add [.ref a0, .int x1, .int x2, .long x3] m (some (.int q.1)) q.2 0 0 :=
  mm_of (ini := false) (n := 0) (plainFor_of_name (by decide)) rfl (fun h => by first | rfl | cases h) (Nat.le_of_ble_eq_true rfl) rfl (v_X9_add_0 t_a0 hf)

set_option maxHeartbeats 4000000 in
theorem v_X9_late_77 {w : Wo} {K : Kn} {a0 : Nat} {x1 : Int32} {x2 : Int32} {x3 : Int64} {q : (Int32 × Mem)} (t_a0 : K a0 = some (.inl 8)) {m : Mem} {x5 : Int32} (hf : f_X9_late_77 K a0 x1 x2 x3 m x5 = some q) : VV w RX9 cX9_late 6 (some .int) rm_X9_late false (QM w K (some (.int q.1)) q.2 0 0) K 77 [some (.ref a0), some (.int x1), some (.int x2), some (.long x3), none, some (.int x5)] [] 0 0 m := by
  unfold f_X9_late_77 at hf
  refine vv_iload 79 dX9_late_77 rfl rfl ?_
  refine vv_bipush 81 (v := 20) dX9_late_79 rfl (by decide) ?_
  refine vv_icmp_ne 87 84 dX9_late_81 rfl (by decide) (fun c1 => ?_) (fun c1 => ?_)
  · rw [if_pos c1] at hf
    refine vv_bipush 86 (v := (-4)) dX9_late_84 rfl (by decide) ?_
    obtain rfl := Option.some.inj hf
    exact vv_iret dX9_late_86 rfl
  · rw [if_neg c1] at hf
    refine vv_aload_n 88 dX9_late_87 rfl rfl ?_
    obtain ⟨b2, g_b2, hf⟩ := bind_s hf
    have t_b2 := (ldA_spec g_b2).2
    refine gf_RX9_41 91 dX9_late_88 rfl t_a0 (ldA_spec g_b2).1 ?_
    refine vv_bipush 93 (v := 20) dX9_late_91 rfl (by decide) ?_
    refine vv_iload_n 94 dX9_late_93 rfl rfl ?_
    refine vv_imul 95 dX9_late_94 rfl ?_
    refine vv_iload 97 dX9_late_95 rfl rfl ?_
    refine vv_iadd 98 dX9_late_97 rfl ?_
    refine vv_iload_n 99 dX9_late_98 rfl rfl ?_
    obtain ⟨m3, g_m3, hf⟩ := bind_s hf
    refine vv_iast 100 dX9_late_99 rfl t_b2 g_m3 ?_
    refine vv_aload_n 101 dX9_late_100 rfl rfl ?_
    obtain ⟨b4, g_b4, hf⟩ := bind_s hf
    have t_b4 := (ldA_spec g_b4).2
    refine gf_RX9_44 104 dX9_late_101 rfl t_a0 (ldA_spec g_b4).1 ?_
    refine vv_bipush 106 (v := 20) dX9_late_104 rfl (by decide) ?_
    refine vv_iload_n 107 dX9_late_106 rfl rfl ?_
    refine vv_imul 108 dX9_late_107 rfl ?_
    refine vv_iload 110 dX9_late_108 rfl rfl ?_
    refine vv_iadd 111 dX9_late_110 rfl ?_
    refine vv_lload_n 112 dX9_late_111 rfl rfl ?_
    obtain ⟨m5, g_m5, hf⟩ := bind_s hf
    refine vv_last 113 dX9_late_112 rfl t_b4 g_m5 ?_
    refine vv_aload_n 114 dX9_late_113 rfl rfl ?_
    obtain ⟨b6, g_b6, hf⟩ := bind_s hf
    have t_b6 := (ldA_spec g_b6).2
    refine gf_RX9_38 117 dX9_late_114 rfl t_a0 (ldA_spec g_b6).1 ?_
    refine vv_iload_n 118 dX9_late_117 rfl rfl ?_
    refine vv_aload_n 119 dX9_late_118 rfl rfl ?_
    obtain ⟨b7, g_b7, hf⟩ := bind_s hf
    have t_b7 := (ldA_spec g_b7).2
    refine gf_RX9_38 122 dX9_late_119 rfl t_a0 (ldA_spec g_b7).1 ?_
    refine vv_iload_n 123 dX9_late_122 rfl rfl ?_
    obtain ⟨r8, g_r8, hf⟩ := bind_s hf
    refine vv_iald 124 dX9_late_123 rfl t_b7 g_r8 ?_
    refine vv_iload 126 dX9_late_124 rfl rfl ?_
    refine vv_iconst 127 (v := 1) dX9_late_126 rfl (by decide) ?_
    refine vv_iadd 128 dX9_late_127 rfl ?_
    obtain ⟨q9, g_q9, hf⟩ := bind_s hf
    refine vv_callS 131 (st := [.int x1, .ref b6]) (As := [.int r8, .int (x5 + (1 : Int32))]) (stk2 := [.int q9, .int x1, .ref b6]) (cl2 := 0) (sl2 := 0) dX9_late_128 rfl lk_RX9_288 w_827 ⟨(Nat.le_of_ble_eq_true rfl), (Nat.le_of_ble_eq_true rfl)⟩ rfl rfl ⟨(Nat.le_of_ble_eq_true rfl), (Nat.le_of_ble_eq_true rfl)⟩ rfl (Nat.le_of_ble_eq_true rfl) rfl rfl rfl rfl (c_J9_max_7cf53 g_q9) ?_
    obtain ⟨m10, g_m10, hf⟩ := bind_s hf
    refine vv_iast 132 dX9_late_131 rfl t_b6 g_m10 ?_
    refine vv_aload_n 133 dX9_late_132 rfl rfl ?_
    obtain ⟨b11, g_b11, hf⟩ := bind_s hf
    have t_b11 := (ldA_spec g_b11).2
    refine gf_RX9_38 136 dX9_late_133 rfl t_a0 (ldA_spec g_b11).1 ?_
    refine vv_iload_n 137 dX9_late_136 rfl rfl ?_
    obtain ⟨r12, g_r12, hf⟩ := bind_s hf
    refine vv_iald 138 dX9_late_137 rfl t_b11 g_r12 ?_
    obtain rfl := Option.some.inj hf
    exact vv_iret dX9_late_138 rfl

set_option maxHeartbeats 4000000 in
theorem v_X9_late_44B {w : Wo} {K : Kn} {a0 : Nat} {x1 : Int32} {x2 : Int32} {x3 : Int64} {q : (Int32 × Mem)} (t_a0 : K a0 = some (.inl 8)) (k44 : Mem → Int32 → Option (Int32 × Mem)) (hk44 : ∀ (m : Mem) (x5 : Int32), k44 m x5 = some q → VV w RX9 cX9_late 6 (some .int) rm_X9_late false (QM w K (some (.int q.1)) q.2 0 0) K 44 [some (.ref a0), some (.int x1), some (.int x2), some (.long x3), none, some (.int x5)] [] 0 0 m) {m : Mem} {x5 : Int32} (hf : f_X9_late_44B K a0 x1 x2 x3 k44 m x5 = some q) : VV w RX9 cX9_late 6 (some .int) rm_X9_late false (QM w K (some (.int q.1)) q.2 0 0) K 44 [some (.ref a0), some (.int x1), some (.int x2), some (.long x3), none, some (.int x5)] [] 0 0 m := by
  unfold f_X9_late_44B at hf
  refine vv_iload 46 dX9_late_44 rfl rfl ?_
  refine vv_aload_n 47 dX9_late_46 rfl rfl ?_
  obtain ⟨b1, g_b1, hf⟩ := bind_s hf
  have t_b1 := (ldA_spec g_b1).2
  refine gf_RX9_38 50 dX9_late_47 rfl t_a0 (ldA_spec g_b1).1 ?_
  refine vv_iload_n 51 dX9_late_50 rfl rfl ?_
  obtain ⟨r2, g_r2, hf⟩ := bind_s hf
  refine vv_iald 52 dX9_late_51 rfl t_b1 g_r2 ?_
  refine vv_icmp_ge 77 55 dX9_late_52 rfl (by decide) (fun c3 => ?_) (fun c3 => ?_)
  · rw [if_pos c3] at hf
    exact v_X9_late_77 t_a0 hf
  · rw [if_neg c3] at hf
    refine vv_aload_n 56 dX9_late_55 rfl rfl ?_
    obtain ⟨b4, g_b4, hf⟩ := bind_s hf
    have t_b4 := (ldA_spec g_b4).2
    refine gf_RX9_41 59 dX9_late_56 rfl t_a0 (ldA_spec g_b4).1 ?_
    refine vv_bipush 61 (v := 20) dX9_late_59 rfl (by decide) ?_
    refine vv_iload_n 62 dX9_late_61 rfl rfl ?_
    refine vv_imul 63 dX9_late_62 rfl ?_
    refine vv_iload 65 dX9_late_63 rfl rfl ?_
    refine vv_iadd 66 dX9_late_65 rfl ?_
    obtain ⟨r5, g_r5, hf⟩ := bind_s hf
    refine vv_iald 67 dX9_late_66 rfl t_b4 g_r5 ?_
    refine vv_iload_n 68 dX9_late_67 rfl rfl ?_
    refine vv_icmp_eq 77 71 dX9_late_68 rfl (by decide) (fun c6 => ?_) (fun c6 => ?_)
    · rw [if_pos c6] at hf
      exact v_X9_late_77 t_a0 hf
    · rw [if_neg c6] at hf
      obtain ⟨z7, e_z7, hf⟩ := bd_s hf
      refine vv_iincE (q := 74) (v := z7) (c := 1) (L' := [some (.ref a0), some (.int x1), some (.int x2), some (.long x3), none, some (.int z7)]) e_z7 dX9_late_71 rfl rfl (by decide) (Nat.le_of_ble_eq_true rfl) rfl ?_
      refine vv_goto 44 dX9_late_74 (by decide) ?_
      exact hk44 _ _ hf

theorem v_X9_late_44 {w : Wo} {K : Kn} {a0 : Nat} {x1 : Int32} {x2 : Int32} {x3 : Int64} {q : (Int32 × Mem)} (t_a0 : K a0 = some (.inl 8)) : ∀ (n : Nat) (m : Mem) (x5 : Int32), f_X9_late_44 K a0 x1 x2 x3 n m x5 = some q → VV w RX9 cX9_late 6 (some .int) rm_X9_late false (QM w K (some (.int q.1)) q.2 0 0) K 44 [some (.ref a0), some (.int x1), some (.int x2), some (.long x3), none, some (.int x5)] [] 0 0 m := by
  intro n
  induction n with
  | zero => intro m x5 hf; cases hf
  | succ n ih => intro m x5 hf; exact v_X9_late_44B (a0 := a0) (x1 := x1) (x2 := x2) (x3 := x3) t_a0 (f_X9_late_44 K a0 x1 x2 x3 n) ih hf

set_option maxHeartbeats 4000000 in
theorem v_X9_late_0 {w : Wo} {K : Kn} {a0 : Nat} {x1 : Int32} {x2 : Int32} {x3 : Int64} {q : (Int32 × Mem)} (t_a0 : K a0 = some (.inl 8)) {m : Mem} (hf : f_X9_late K a0 x1 x2 x3 m = some q) : VV w RX9 cX9_late 6 (some .int) rm_X9_late false (QM w K (some (.int q.1)) q.2 0 0) K 0 [some (.ref a0), some (.int x1), some (.int x2), some (.long x3), none, none] [] 0 0 m := by
  unfold f_X9_late at hf
  refine vv_aload_n 1 dX9_late_0 rfl rfl ?_
  refine vv_iload_n 2 dX9_late_1 rfl rfl ?_
  obtain ⟨q1, g_q1, hf⟩ := bind_s hf
  refine vv_callV 5 (st := []) (As := [.int x1]) (stk2 := [.int q1]) (cl2 := 0) (sl2 := 0) dX9_late_2 rfl lk_RX9_87 w_1220 w_21 rfl t_a0 ⟨(Nat.le_of_ble_eq_true rfl), (Nat.le_of_ble_eq_true rfl)⟩ rfl rfl ⟨(Nat.le_of_ble_eq_true rfl), (Nat.le_of_ble_eq_true rfl)⟩ rfl (Nat.le_of_ble_eq_true rfl) rfl rfl rfl rfl (c_X9_isSeries t_a0 g_q1) ?_
  refine vv_if_eq 15 8 dX9_late_5 rfl (by decide) (fun c2 => ?_) (fun c2 => ?_)
  · rw [if_pos c2] at hf
    refine vv_bipush 17 (v := (-2)) dX9_late_15 rfl (by decide) ?_
    obtain rfl := Option.some.inj hf
    exact vv_iret dX9_late_17 rfl
  · rw [if_neg c2] at hf
    refine vv_iload_n 9 dX9_late_8 rfl rfl ?_
    obtain ⟨q3, g_q3, hf⟩ := bind_s hf
    refine vv_callS 12 (st := []) (As := [.int x2]) (stk2 := [.int q3]) (cl2 := 0) (sl2 := 0) dX9_late_9 rfl lk_RX9_278 w_1223 ⟨(Nat.le_of_ble_eq_true rfl), (Nat.le_of_ble_eq_true rfl)⟩ rfl rfl ⟨(Nat.le_of_ble_eq_true rfl), (Nat.le_of_ble_eq_true rfl)⟩ rfl (Nat.le_of_ble_eq_true rfl) rfl rfl rfl rfl (c_X9_isStamp g_q3) ?_
    refine vv_if_ne 18 15 dX9_late_12 rfl (by decide) (fun c4 => ?_) (fun c4 => ?_)
    · rw [if_pos c4] at hf
      refine vv_bipush 17 (v := (-2)) dX9_late_15 rfl (by decide) ?_
      obtain rfl := Option.some.inj hf
      exact vv_iret dX9_late_17 rfl
    · rw [if_neg c4] at hf
      refine vv_aload_n 19 dX9_late_18 rfl rfl ?_
      obtain ⟨b5, g_b5, hf⟩ := bind_s hf
      have t_b5 := (ldA_spec g_b5).2
      refine gf_RX9_13 22 dX9_late_19 rfl t_a0 (ldA_spec g_b5).1 ?_
      refine vv_iload_n 23 dX9_late_22 rfl rfl ?_
      obtain ⟨r6, g_r6, hf⟩ := bind_s hf
      refine vv_iald 24 dX9_late_23 rfl t_b5 g_r6 ?_
      refine vv_iconst 25 (v := (-1)) dX9_late_24 rfl (by decide) ?_
      refine vv_icmp_eq 38 28 dX9_late_25 rfl (by decide) (fun c7 => ?_) (fun c7 => ?_)
      · rw [if_pos c7] at hf
        refine vv_bipush 40 (v := (-5)) dX9_late_38 rfl (by decide) ?_
        obtain rfl := Option.some.inj hf
        exact vv_iret dX9_late_40 rfl
      · rw [if_neg c7] at hf
        refine vv_iload_n 29 dX9_late_28 rfl rfl ?_
        refine vv_aload_n 30 dX9_late_29 rfl rfl ?_
        obtain ⟨b8, g_b8, hf⟩ := bind_s hf
        have t_b8 := (ldA_spec g_b8).2
        refine gf_RX9_13 33 dX9_late_30 rfl t_a0 (ldA_spec g_b8).1 ?_
        refine vv_iload_n 34 dX9_late_33 rfl rfl ?_
        obtain ⟨r9, g_r9, hf⟩ := bind_s hf
        refine vv_iald 35 dX9_late_34 rfl t_b8 g_r9 ?_
        refine vv_icmp_le 41 38 dX9_late_35 rfl (by decide) (fun c10 => ?_) (fun c10 => ?_)
        · rw [if_pos c10] at hf
          refine vv_iconst 42 (v := 0) dX9_late_41 rfl (by decide) ?_
          refine vv_istore 44 (L' := [some (.ref a0), some (.int x1), some (.int x2), some (.long x3), none, some (.int (0 : Int32))]) dX9_late_42 rfl (Nat.le_of_ble_eq_true rfl) rfl ?_
          exact v_X9_late_44 t_a0 FU _ _ hf
        · rw [if_neg c10] at hf
          refine vv_bipush 40 (v := (-5)) dX9_late_38 rfl (by decide) ?_
          obtain rfl := Option.some.inj hf
          exact vv_iret dX9_late_40 rfl

theorem c_X9_late {w : Wo} {K : Kn} {a0 : Nat} {x1 : Int32} {x2 : Int32} {x3 : Int64} {q : (Int32 × Mem)} {m : Mem} (t_a0 : K a0 = some (.inl 8)) (hf : F_X9_late K m a0 x1 x2 x3 = some q) : MM w K K yX9_late cX9_late 6 (some .int) rm_X9_late [.ref a0, .int x1, .int x2, .long x3] m (some (.int q.1)) q.2 0 0 :=
  mm_of (ini := false) (n := 1) (plainFor_of_name (by decide)) rfl (fun h => by first | rfl | cases h) (Nat.le_of_ble_eq_true rfl) rfl (v_X9_late_0 t_a0 hf)

set_option maxHeartbeats 4000000 in
theorem v_X9_would_127 {w : Wo} {K : Kn} {a0 : Nat} {x1 : Int32} {x2 : Int32} {x3 : Int64} {q : (Int32 × Mem)} (t_a0 : K a0 = some (.inl 8)) {m : Mem} (hf : f_X9_would_127 K a0 x1 x2 x3 m = some q) : VV w RX9 cX9_would 7 (some .int) rm_X9_would false (QM w K (some (.int q.1)) q.2 0 0) K 127 [none, none, none, none, none, none, none] [] 0 0 m := by
  unfold f_X9_would_127 at hf
  refine vv_iconst 128 (v := 0) dX9_would_127 rfl (by decide) ?_
  obtain rfl := Option.some.inj hf
  exact vv_iret dX9_would_128 rfl

set_option maxHeartbeats 4000000 in
theorem v_X9_would_88 {w : Wo} {K : Kn} {a0 : Nat} {x1 : Int32} {x2 : Int32} {x3 : Int64} {q : (Int32 × Mem)} (t_a0 : K a0 = some (.inl 8)) {m : Mem} {x5 : Int32} {s0 : Int32} (hf : f_X9_would_88 K a0 x1 x2 x3 m x5 s0 = some q) : VV w RX9 cX9_would 7 (some .int) rm_X9_would false (QM w K (some (.int q.1)) q.2 0 0) K 88 [some (.ref a0), some (.int x1), none, none, none, some (.int x5), none] [.int s0] 0 0 m := by
  unfold f_X9_would_88 at hf
  refine vv_istore 90 (L' := [some (.ref a0), some (.int x1), none, none, none, some (.int x5), some (.int s0)]) dX9_would_88 rfl (Nat.le_of_ble_eq_true rfl) rfl ?_
  refine vv_iload 92 dX9_would_90 rfl rfl ?_
  refine vv_if_eq 127 95 dX9_would_92 rfl (by decide) (fun c1 => ?_) (fun c1 => ?_)
  · rw [if_pos c1] at hf
    exact VV.lle (v_X9_would_127 t_a0 hf) (lle_n (lle_n (lle_s (lle_s (lle_s (lle_n (lle_n lle_nil)))))))
  · rw [if_neg c1] at hf
    refine vv_bipush 97 (v := 14) dX9_would_95 rfl (by decide) ?_
    refine vv_aload_n 98 dX9_would_97 rfl rfl ?_
    refine gf_RX9_175 101 dX9_would_98 rfl t_a0 ?_
    refine vv_iload 103 dX9_would_101 rfl rfl ?_
    refine vv_iadd 104 dX9_would_103 rfl ?_
    refine vv_bipush 106 (v := 7) dX9_would_104 rfl (by decide) ?_
    refine vv_iadd 107 dX9_would_106 rfl ?_
    refine vv_bipush 109 (v := 8) dX9_would_107 rfl (by decide) ?_
    refine vv_idiv 110 dX9_would_109 rfl (by decide) ?_
    refine vv_iadd 111 dX9_would_110 rfl ?_
    refine vv_iconst 112 (v := 1) dX9_would_111 rfl (by decide) ?_
    refine vv_iadd 113 dX9_would_112 rfl ?_
    refine vv_aload_n 114 dX9_would_113 rfl rfl ?_
    obtain ⟨b2, g_b2, hf⟩ := bind_s hf
    have t_b2 := (ldA_spec g_b2).2
    refine gf_RX9_7 117 dX9_would_114 rfl t_a0 (ldA_spec g_b2).1 ?_
    refine vv_iload_n 118 dX9_would_117 rfl rfl ?_
    obtain ⟨r3, g_r3, hf⟩ := bind_s hf
    refine vv_iald 119 dX9_would_118 rfl t_b2 g_r3 ?_
    refine vv_icmp_gt 127 122 dX9_would_119 rfl (by decide) (fun c4 => ?_) (fun c4 => ?_)
    · rw [if_pos c4] at hf
      exact VV.lle (v_X9_would_127 t_a0 hf) (lle_n (lle_n (lle_s (lle_s (lle_s (lle_n (lle_n lle_nil)))))))
    · rw [if_neg c4] at hf
      refine vv_iload 124 dX9_would_122 rfl rfl ?_
      refine vv_goto 128 dX9_would_124 (by decide) ?_
      obtain rfl := Option.some.inj hf
      exact vv_iret dX9_would_128 rfl

set_option maxHeartbeats 4000000 in
theorem v_X9_would_70 {w : Wo} {K : Kn} {a0 : Nat} {x1 : Int32} {x2 : Int32} {x3 : Int64} {q : (Int32 × Mem)} (t_a0 : K a0 = some (.inl 8)) {m : Mem} {s0 : Int32} (hf : f_X9_would_70 K a0 x1 x2 x3 m s0 = some q) : VV w RX9 cX9_would 7 (some .int) rm_X9_would false (QM w K (some (.int q.1)) q.2 0 0) K 70 [some (.ref a0), some (.int x1), some (.int x2), some (.long x3), none, none, none] [.int s0] 0 0 m := by
  unfold f_X9_would_70 at hf
  refine vv_istore 72 (L' := [some (.ref a0), some (.int x1), some (.int x2), some (.long x3), none, some (.int s0), none]) dX9_would_70 rfl (Nat.le_of_ble_eq_true rfl) rfl ?_
  refine vv_iload 74 dX9_would_72 rfl rfl ?_
  refine vv_if_eq 87 77 dX9_would_74 rfl (by decide) (fun c1 => ?_) (fun c1 => ?_)
  · rw [if_pos c1] at hf
    refine vv_iconst 88 (v := 0) dX9_would_87 rfl (by decide) ?_
    exact VV.lle (v_X9_would_88 t_a0 hf) (lle_s (lle_s (lle_n (lle_n (lle_s (lle_s (lle_s lle_nil)))))))
  · rw [if_neg c1] at hf
    refine vv_aload_n 78 dX9_would_77 rfl rfl ?_
    refine vv_iload_n 79 dX9_would_78 rfl rfl ?_
    refine vv_i2l 80 dX9_would_79 rfl ?_
    refine vv_lload_n 81 dX9_would_80 rfl rfl ?_
    obtain ⟨q2, g_q2, hf⟩ := bind_s hf
    refine vv_callV 84 (st := []) (As := [.long ((x2).toInt64), .long x3]) (stk2 := [.int q2]) (cl2 := 0) (sl2 := 0) dX9_would_81 rfl lk_RX9_254 w_1314 w_38 rfl t_a0 ⟨(Nat.le_of_ble_eq_true rfl), (Nat.le_of_ble_eq_true rfl)⟩ rfl rfl ⟨(Nat.le_of_ble_eq_true rfl), (Nat.le_of_ble_eq_true rfl)⟩ rfl (Nat.le_of_ble_eq_true rfl) rfl rfl rfl rfl (c_X9_takesBits t_a0 g_q2) ?_
    refine vv_goto 88 dX9_would_84 (by decide) ?_
    exact VV.lle (v_X9_would_88 t_a0 hf) (lle_s (lle_s (lle_n (lle_n (lle_s (lle_s (lle_s lle_nil)))))))

set_option maxHeartbeats 4000000 in
theorem v_X9_would_69 {w : Wo} {K : Kn} {a0 : Nat} {x1 : Int32} {x2 : Int32} {x3 : Int64} {q : (Int32 × Mem)} (t_a0 : K a0 = some (.inl 8)) {m : Mem} (hf : f_X9_would_69 K a0 x1 x2 x3 m = some q) : VV w RX9 cX9_would 7 (some .int) rm_X9_would false (QM w K (some (.int q.1)) q.2 0 0) K 69 [some (.ref a0), some (.int x1), some (.int x2), some (.long x3), none, none, none] [] 0 0 m := by
  unfold f_X9_would_69 at hf
  refine vv_iconst 70 (v := 0) dX9_would_69 rfl (by decide) ?_
  exact v_X9_would_70 t_a0 hf

set_option maxHeartbeats 4000000 in
theorem v_X9_would_0 {w : Wo} {K : Kn} {a0 : Nat} {x1 : Int32} {x2 : Int32} {x3 : Int64} {q : (Int32 × Mem)} (t_a0 : K a0 = some (.inl 8)) {m : Mem} (hf : f_X9_would K a0 x1 x2 x3 m = some q) : VV w RX9 cX9_would 7 (some .int) rm_X9_would false (QM w K (some (.int q.1)) q.2 0 0) K 0 [some (.ref a0), some (.int x1), some (.int x2), some (.long x3), none, none, none] [] 0 0 m := by
  unfold f_X9_would at hf
  refine vv_aload_n 1 dX9_would_0 rfl rfl ?_
  refine vv_iload_n 2 dX9_would_1 rfl rfl ?_
  obtain ⟨q1, g_q1, hf⟩ := bind_s hf
  refine vv_callV 5 (st := []) (As := [.int x1]) (stk2 := [.int q1]) (cl2 := 0) (sl2 := 0) dX9_would_2 rfl lk_RX9_87 w_1220 w_21 rfl t_a0 ⟨(Nat.le_of_ble_eq_true rfl), (Nat.le_of_ble_eq_true rfl)⟩ rfl rfl ⟨(Nat.le_of_ble_eq_true rfl), (Nat.le_of_ble_eq_true rfl)⟩ rfl (Nat.le_of_ble_eq_true rfl) rfl rfl rfl rfl (c_X9_isSeries t_a0 g_q1) ?_
  refine vv_if_eq 15 8 dX9_would_5 rfl (by decide) (fun c2 => ?_) (fun c2 => ?_)
  · rw [if_pos c2] at hf
    refine vv_bipush 17 (v := (-2)) dX9_would_15 rfl (by decide) ?_
    obtain rfl := Option.some.inj hf
    exact vv_iret dX9_would_17 rfl
  · rw [if_neg c2] at hf
    refine vv_iload_n 9 dX9_would_8 rfl rfl ?_
    obtain ⟨q3, g_q3, hf⟩ := bind_s hf
    refine vv_callS 12 (st := []) (As := [.int x2]) (stk2 := [.int q3]) (cl2 := 0) (sl2 := 0) dX9_would_9 rfl lk_RX9_278 w_1223 ⟨(Nat.le_of_ble_eq_true rfl), (Nat.le_of_ble_eq_true rfl)⟩ rfl rfl ⟨(Nat.le_of_ble_eq_true rfl), (Nat.le_of_ble_eq_true rfl)⟩ rfl (Nat.le_of_ble_eq_true rfl) rfl rfl rfl rfl (c_X9_isStamp g_q3) ?_
    refine vv_if_ne 18 15 dX9_would_12 rfl (by decide) (fun c4 => ?_) (fun c4 => ?_)
    · rw [if_pos c4] at hf
      refine vv_bipush 17 (v := (-2)) dX9_would_15 rfl (by decide) ?_
      obtain rfl := Option.some.inj hf
      exact vv_iret dX9_would_17 rfl
    · rw [if_neg c4] at hf
      refine vv_aload_n 19 dX9_would_18 rfl rfl ?_
      refine vv_iload_n 20 dX9_would_19 rfl rfl ?_
      refine vv_iload_n 21 dX9_would_20 rfl rfl ?_
      obtain ⟨q5, g_q5, hf⟩ := bind_s hf
      refine vv_callV 24 (st := []) (As := [.int x1, .int x2]) (stk2 := [.int q5]) (cl2 := 0) (sl2 := 0) dX9_would_21 rfl lk_RX9_281 w_1228 w_22 rfl t_a0 ⟨(Nat.le_of_ble_eq_true rfl), (Nat.le_of_ble_eq_true rfl)⟩ rfl rfl ⟨(Nat.le_of_ble_eq_true rfl), (Nat.le_of_ble_eq_true rfl)⟩ rfl (Nat.le_of_ble_eq_true rfl) rfl rfl rfl rfl (c_X9_isAbove t_a0 g_q5) ?_
      refine vv_if_ne 30 27 dX9_would_24 rfl (by decide) (fun c6 => ?_) (fun c6 => ?_)
      · rw [if_pos c6] at hf
        refine vv_bipush 29 (v := (-5)) dX9_would_27 rfl (by decide) ?_
        obtain rfl := Option.some.inj hf
        exact vv_iret dX9_would_29 rfl
      · rw [if_neg c6] at hf
        refine vv_aload_n 31 dX9_would_30 rfl rfl ?_
        refine vv_iload_n 32 dX9_would_31 rfl rfl ?_
        obtain ⟨q7, g_q7, hf⟩ := bind_s hf
        refine vv_callV 35 (st := []) (As := [.int x1]) (stk2 := []) (cl2 := 0) (sl2 := 0) dX9_would_32 rfl lk_RX9_285 w_1232 w_23 rfl t_a0 ⟨(Nat.le_of_ble_eq_true rfl), (Nat.le_of_ble_eq_true rfl)⟩ rfl rfl ⟨(Nat.le_of_ble_eq_true rfl), (Nat.le_of_ble_eq_true rfl)⟩ rfl (Nat.le_of_ble_eq_true rfl) rfl rfl rfl rfl (c_X9_opens t_a0 g_q7) ?_
        refine vv_aload_n 36 dX9_would_35 rfl rfl ?_
        obtain ⟨b8, g_b8, hf⟩ := bind_s hf
        have t_b8 := (ldA_spec g_b8).2
        refine gf_RX9_16 39 dX9_would_36 rfl t_a0 (ldA_spec g_b8).1 ?_
        refine vv_iload_n 40 dX9_would_39 rfl rfl ?_
        obtain ⟨r9, g_r9, hf⟩ := bind_s hf
        refine vv_iald 41 dX9_would_40 rfl t_b8 g_r9 ?_
        refine vv_if_le 69 44 dX9_would_41 rfl (by decide) (fun c10 => ?_) (fun c10 => ?_)
        · rw [if_pos c10] at hf
          exact v_X9_would_69 t_a0 hf
        · rw [if_neg c10] at hf
          refine vv_aload_n 45 dX9_would_44 rfl rfl ?_
          obtain ⟨b11, g_b11, hf⟩ := bind_s hf
          have t_b11 := (ldA_spec g_b11).2
          refine gf_RX9_28 48 dX9_would_45 rfl t_a0 (ldA_spec g_b11).1 ?_
          refine vv_bipush 50 (v := 16) dX9_would_48 rfl (by decide) ?_
          refine vv_iload_n 51 dX9_would_50 rfl rfl ?_
          refine vv_imul 52 dX9_would_51 rfl ?_
          refine vv_aload_n 53 dX9_would_52 rfl rfl ?_
          obtain ⟨b12, g_b12, hf⟩ := bind_s hf
          have t_b12 := (ldA_spec g_b12).2
          refine gf_RX9_16 56 dX9_would_53 rfl t_a0 (ldA_spec g_b12).1 ?_
          refine vv_iload_n 57 dX9_would_56 rfl rfl ?_
          obtain ⟨r13, g_r13, hf⟩ := bind_s hf
          refine vv_iald 58 dX9_would_57 rfl t_b12 g_r13 ?_
          refine vv_iadd 59 dX9_would_58 rfl ?_
          refine vv_iconst 60 (v := 1) dX9_would_59 rfl (by decide) ?_
          refine vv_isub 61 dX9_would_60 rfl ?_
          obtain ⟨r14, g_r14, hf⟩ := bind_s hf
          refine vv_zald 62 dX9_would_61 rfl t_b11 g_r14 ?_
          refine vv_if_ne 69 65 dX9_would_62 rfl (by decide) (fun c15 => ?_) (fun c15 => ?_)
          · rw [if_pos c15] at hf
            refine vv_iconst 66 (v := 1) dX9_would_65 rfl (by decide) ?_
            refine vv_goto 70 dX9_would_66 (by decide) ?_
            exact v_X9_would_70 t_a0 hf
          · rw [if_neg c15] at hf
            exact v_X9_would_69 t_a0 hf

theorem c_X9_would {w : Wo} {K : Kn} {a0 : Nat} {x1 : Int32} {x2 : Int32} {x3 : Int64} {q : (Int32 × Mem)} {m : Mem} (t_a0 : K a0 = some (.inl 8)) (hf : F_X9_would K m a0 x1 x2 x3 = some q) : MM w K K yX9_would cX9_would 7 (some .int) rm_X9_would [.ref a0, .int x1, .int x2, .long x3] m (some (.int q.1)) q.2 0 0 :=
  mm_of (ini := false) (n := 2) (plainFor_of_name (by decide)) rfl (fun h => by first | rfl | cases h) (Nat.le_of_ble_eq_true rfl) rfl (v_X9_would_0 t_a0 hf)

set_option maxHeartbeats 4000000 in
theorem v_X9_isBroken_0 {w : Wo} {K : Kn} {a0 : Nat} {x1 : Int32} {q : (Int32 × Mem)} (t_a0 : K a0 = some (.inl 8)) {m : Mem} (hf : f_X9_isBroken K a0 x1 m = some q) : VV w RX9 cX9_isBroken 2 (some .boolean) rm_X9_isBroken false (QM w K (some (.int q.1)) q.2 0 0) K 0 [some (.ref a0), some (.int x1)] [] 0 0 m := by
  unfold f_X9_isBroken at hf
  refine vv_aload_n 1 dX9_isBroken_0 rfl rfl ?_
  refine vv_iload_n 2 dX9_isBroken_1 rfl rfl ?_
  obtain ⟨q1, g_q1, hf⟩ := bind_s hf
  refine vv_callV 5 (st := []) (As := [.int x1]) (stk2 := []) (cl2 := 0) (sl2 := 0) dX9_isBroken_2 rfl lk_RX9_242 w_1236 w_24 rfl t_a0 ⟨(Nat.le_of_ble_eq_true rfl), (Nat.le_of_ble_eq_true rfl)⟩ rfl rfl ⟨(Nat.le_of_ble_eq_true rfl), (Nat.le_of_ble_eq_true rfl)⟩ rfl (Nat.le_of_ble_eq_true rfl) rfl rfl rfl rfl (c_X9_reads t_a0 g_q1) ?_
  refine vv_aload_n 6 dX9_isBroken_5 rfl rfl ?_
  refine gf_RX9_203 9 dX9_isBroken_6 rfl t_a0 ?_
  refine vv_if_le 16 12 dX9_isBroken_9 rfl (by decide) (fun c2 => ?_) (fun c2 => ?_)
  · rw [if_pos c2] at hf
    refine vv_iconst 17 (v := 0) dX9_isBroken_16 rfl (by decide) ?_
    obtain rfl := Option.some.inj hf
    exact vv_zret dX9_isBroken_17 rfl (Or.inl rfl)
  · rw [if_neg c2] at hf
    refine vv_iconst 13 (v := 1) dX9_isBroken_12 rfl (by decide) ?_
    refine vv_goto 17 dX9_isBroken_13 (by decide) ?_
    obtain rfl := Option.some.inj hf
    exact vv_zret dX9_isBroken_17 rfl (Or.inr rfl)

theorem c_X9_isBroken {w : Wo} {K : Kn} {a0 : Nat} {x1 : Int32} {q : (Int32 × Mem)} {m : Mem} (t_a0 : K a0 = some (.inl 8)) (hf : F_X9_isBroken K m a0 x1 = some q) : MM w K K yX9_isBroken cX9_isBroken 2 (some .boolean) rm_X9_isBroken [.ref a0, .int x1] m (some (.int q.1)) q.2 0 0 :=
  mm_of (ini := false) (n := 0) (plainFor_of_name (by decide)) rfl (fun h => by first | rfl | cases h) (Nat.le_of_ble_eq_true rfl) rfl (v_X9_isBroken_0 t_a0 hf)

set_option maxHeartbeats 4000000 in
theorem v_X9_hasBroken_2B {w : Wo} {K : Kn} {a0 : Nat} {x1 : Int32} {q : (Int32 × Mem)} (t_a0 : K a0 = some (.inl 8)) (k2 : Mem → Int32 → Option (Int32 × Mem)) (hk2 : ∀ (m : Mem) (x2 : Int32), k2 m x2 = some q → VV w RX9 cX9_hasBroken 3 (some .boolean) rm_X9_hasBroken false (QM w K (some (.int q.1)) q.2 0 0) K 2 [some (.ref a0), some (.int x1), some (.int x2)] [] 0 0 m) {m : Mem} {x2 : Int32} (hf : f_X9_hasBroken_2B K a0 x1 k2 m x2 = some q) : VV w RX9 cX9_hasBroken 3 (some .boolean) rm_X9_hasBroken false (QM w K (some (.int q.1)) q.2 0 0) K 2 [some (.ref a0), some (.int x1), some (.int x2)] [] 0 0 m := by
  unfold f_X9_hasBroken_2B at hf
  refine vv_iload_n 3 dX9_hasBroken_2 rfl rfl ?_
  refine vv_aload_n 4 dX9_hasBroken_3 rfl rfl ?_
  obtain ⟨b1, g_b1, hf⟩ := bind_s hf
  have t_b1 := (ldA_spec g_b1).2
  refine gf_RX9_16 7 dX9_hasBroken_4 rfl t_a0 (ldA_spec g_b1).1 ?_
  refine vv_iload_n 8 dX9_hasBroken_7 rfl rfl ?_
  obtain ⟨r2, g_r2, hf⟩ := bind_s hf
  refine vv_iald 9 dX9_hasBroken_8 rfl t_b1 g_r2 ?_
  refine vv_icmp_ge 33 12 dX9_hasBroken_9 rfl (by decide) (fun c3 => ?_) (fun c3 => ?_)
  · rw [if_pos c3] at hf
    refine vv_iconst 34 (v := 0) dX9_hasBroken_33 rfl (by decide) ?_
    obtain rfl := Option.some.inj hf
    exact vv_zret dX9_hasBroken_34 rfl (Or.inl rfl)
  · rw [if_neg c3] at hf
    refine vv_aload_n 13 dX9_hasBroken_12 rfl rfl ?_
    refine vv_bipush 15 (v := 16) dX9_hasBroken_13 rfl (by decide) ?_
    refine vv_iload_n 16 dX9_hasBroken_15 rfl rfl ?_
    refine vv_imul 17 dX9_hasBroken_16 rfl ?_
    refine vv_iload_n 18 dX9_hasBroken_17 rfl rfl ?_
    refine vv_iadd 19 dX9_hasBroken_18 rfl ?_
    obtain ⟨q4, g_q4, hf⟩ := bind_s hf
    refine vv_callV 22 (st := []) (As := [.int (((16 : Int32) * x1) + x2)]) (stk2 := [.int q4.1]) (cl2 := 0) (sl2 := 0) dX9_hasBroken_19 rfl lk_RX9_245 w_1365 w_44 rfl t_a0 ⟨(Nat.le_of_ble_eq_true rfl), (Nat.le_of_ble_eq_true rfl)⟩ rfl rfl ⟨(Nat.le_of_ble_eq_true rfl), (Nat.le_of_ble_eq_true rfl)⟩ rfl (Nat.le_of_ble_eq_true rfl) rfl rfl rfl rfl (c_X9_isBroken t_a0 g_q4) ?_
    refine vv_if_eq 27 25 dX9_hasBroken_22 rfl (by decide) (fun c5 => ?_) (fun c5 => ?_)
    · rw [if_pos c5] at hf
      obtain ⟨z6, e_z6, hf⟩ := bd_s hf
      refine vv_iincE (q := 30) (v := z6) (c := 1) (L' := [some (.ref a0), some (.int x1), some (.int z6)]) e_z6 dX9_hasBroken_27 rfl rfl (by decide) (Nat.le_of_ble_eq_true rfl) rfl ?_
      refine vv_goto 2 dX9_hasBroken_30 (by decide) ?_
      exact hk2 _ _ hf
    · rw [if_neg c5] at hf
      refine vv_iconst 26 (v := 1) dX9_hasBroken_25 rfl (by decide) ?_
      obtain rfl := Option.some.inj hf
      exact vv_zret dX9_hasBroken_26 rfl (Or.inr rfl)

theorem v_X9_hasBroken_2 {w : Wo} {K : Kn} {a0 : Nat} {x1 : Int32} {q : (Int32 × Mem)} (t_a0 : K a0 = some (.inl 8)) : ∀ (n : Nat) (m : Mem) (x2 : Int32), f_X9_hasBroken_2 K a0 x1 n m x2 = some q → VV w RX9 cX9_hasBroken 3 (some .boolean) rm_X9_hasBroken false (QM w K (some (.int q.1)) q.2 0 0) K 2 [some (.ref a0), some (.int x1), some (.int x2)] [] 0 0 m := by
  intro n
  induction n with
  | zero => intro m x2 hf; cases hf
  | succ n ih => intro m x2 hf; exact v_X9_hasBroken_2B (a0 := a0) (x1 := x1) t_a0 (f_X9_hasBroken_2 K a0 x1 n) ih hf

set_option maxHeartbeats 4000000 in
theorem v_X9_hasBroken_0 {w : Wo} {K : Kn} {a0 : Nat} {x1 : Int32} {q : (Int32 × Mem)} (t_a0 : K a0 = some (.inl 8)) {m : Mem} (hf : f_X9_hasBroken K a0 x1 m = some q) : VV w RX9 cX9_hasBroken 3 (some .boolean) rm_X9_hasBroken false (QM w K (some (.int q.1)) q.2 0 0) K 0 [some (.ref a0), some (.int x1), none] [] 0 0 m := by
  unfold f_X9_hasBroken at hf
  refine vv_iconst 1 (v := 0) dX9_hasBroken_0 rfl (by decide) ?_
  refine vv_istore_n 2 (L' := [some (.ref a0), some (.int x1), some (.int (0 : Int32))]) dX9_hasBroken_1 rfl (Nat.le_of_ble_eq_true rfl) rfl ?_
  exact v_X9_hasBroken_2 t_a0 FU _ _ hf

theorem c_X9_hasBroken {w : Wo} {K : Kn} {a0 : Nat} {x1 : Int32} {q : (Int32 × Mem)} {m : Mem} (t_a0 : K a0 = some (.inl 8)) (hf : F_X9_hasBroken K m a0 x1 = some q) : MM w K K yX9_hasBroken cX9_hasBroken 3 (some .boolean) rm_X9_hasBroken [.ref a0, .int x1] m (some (.int q.1)) q.2 0 0 :=
  mm_of (ini := false) (n := 1) (plainFor_of_name (by decide)) rfl (fun h => by first | rfl | cases h) (Nat.le_of_ble_eq_true rfl) rfl (v_X9_hasBroken_0 t_a0 hf)

set_option maxHeartbeats 4000000 in
theorem v_X9_firstNot_46 {w : Wo} {K : Kn} {a0 : Nat} {x1 : Int64} {q : Int32} {m : Mem} (t_a0 : K a0 = some (.inl 8)) (k8 : Int32 → Int32 → Option Int32) (hk8 : ∀ (x3 : Int32) (x4 : Int32), k8 x3 x4 = some q → VV w RX9 cX9_firstNot 6 (some .int) rm_X9_firstNot false (QM w K (some (.int q)) m 0 0) K 8 [some (.ref a0), some (.long x1), none, some (.int x3), some (.int x4), none] [] 0 0 m) {x3 : Int32} {x4 : Int32} (hf : f_X9_firstNot_46 K m a0 x1 k8 x3 x4 = some q) : VV w RX9 cX9_firstNot 6 (some .int) rm_X9_firstNot false (QM w K (some (.int q)) m 0 0) K 46 [some (.ref a0), some (.long x1), none, some (.int x3), some (.int x4), none] [] 0 0 m := by
  unfold f_X9_firstNot_46 at hf
  refine vv_goto 8 dX9_firstNot_46 (by decide) ?_
  exact hk8 _ _ hf

set_option maxHeartbeats 4000000 in
theorem v_X9_firstNot_8B {w : Wo} {K : Kn} {a0 : Nat} {x1 : Int64} {q : Int32} {m : Mem} (t_a0 : K a0 = some (.inl 8)) (k8 : Int32 → Int32 → Option Int32) (hk8 : ∀ (x3 : Int32) (x4 : Int32), k8 x3 x4 = some q → VV w RX9 cX9_firstNot 6 (some .int) rm_X9_firstNot false (QM w K (some (.int q)) m 0 0) K 8 [some (.ref a0), some (.long x1), none, some (.int x3), some (.int x4), none] [] 0 0 m) {x3 : Int32} {x4 : Int32} (hf : f_X9_firstNot_8B K m a0 x1 k8 x3 x4 = some q) : VV w RX9 cX9_firstNot 6 (some .int) rm_X9_firstNot false (QM w K (some (.int q)) m 0 0) K 8 [some (.ref a0), some (.long x1), none, some (.int x3), some (.int x4), none] [] 0 0 m := by
  unfold f_X9_firstNot_8B at hf
  refine vv_iload_n 9 dX9_firstNot_8 rfl rfl ?_
  refine vv_iload 11 dX9_firstNot_9 rfl rfl ?_
  refine vv_icmp_ge 49 14 dX9_firstNot_11 rfl (by decide) (fun c1 => ?_) (fun c1 => ?_)
  · rw [if_pos c1] at hf
    refine vv_iload_n 50 dX9_firstNot_49 rfl rfl ?_
    obtain rfl := Option.some.inj hf
    exact vv_iret dX9_firstNot_50 rfl
  · rw [if_neg c1] at hf
    refine vv_iload_n 15 dX9_firstNot_14 rfl rfl ?_
    refine vv_iload 17 dX9_firstNot_15 rfl rfl ?_
    refine vv_iadd 18 dX9_firstNot_17 rfl ?_
    refine vv_iconst 19 (v := 2) dX9_firstNot_18 rfl (by decide) ?_
    refine vv_idiv 20 dX9_firstNot_19 rfl (by decide) ?_
    obtain ⟨z2, e_z2, hf⟩ := bd_s hf
    refine vv_istoreE (q := 22) (v := z2) (L' := [some (.ref a0), some (.long x1), none, some (.int x3), some (.int x4), some (.int z2)]) e_z2 dX9_firstNot_20 rfl (Nat.le_of_ble_eq_true rfl) rfl ?_
    refine vv_aload_n 23 dX9_firstNot_22 rfl rfl ?_
    obtain ⟨b3, g_b3, hf⟩ := bind_s hf
    have t_b3 := (ldA_spec g_b3).2
    refine gf_RX9_66 26 dX9_firstNot_23 rfl t_a0 (ldA_spec g_b3).1 ?_
    refine vv_iload 28 dX9_firstNot_26 rfl rfl ?_
    obtain ⟨r4, g_r4, hf⟩ := bind_s hf
    refine vv_lald 29 dX9_firstNot_28 rfl t_b3 g_r4 ?_
    refine vv_lload_n 30 dX9_firstNot_29 rfl rfl ?_
    refine vv_lcmp 31 dX9_firstNot_30 rfl ?_
    refine vv_if_ge 42 34 dX9_firstNot_31 rfl (by decide) (fun c5 => ?_) (fun c5 => ?_)
    · rw [if_pos c5] at hf
      refine vv_iload 44 dX9_firstNot_42 rfl rfl ?_
      refine vv_istore 46 (L' := [some (.ref a0), some (.long x1), none, some (.int x3), some (.int z2), some (.int z2)]) dX9_firstNot_44 rfl (Nat.le_of_ble_eq_true rfl) rfl ?_
      exact VV.lle (v_X9_firstNot_46 t_a0 k8 hk8 hf) (lle_s (lle_s (lle_s (lle_s (lle_s (lle_n lle_nil))))))
    · rw [if_neg c5] at hf
      refine vv_iload 36 dX9_firstNot_34 rfl rfl ?_
      refine vv_iconst 37 (v := 1) dX9_firstNot_36 rfl (by decide) ?_
      refine vv_iadd 38 dX9_firstNot_37 rfl ?_
      obtain ⟨z6, e_z6, hf⟩ := bd_s hf
      refine vv_istore_nE (q := 39) (v := z6) (L' := [some (.ref a0), some (.long x1), none, some (.int z6), some (.int x4), some (.int z2)]) e_z6 dX9_firstNot_38 rfl (Nat.le_of_ble_eq_true rfl) rfl ?_
      refine vv_goto 46 dX9_firstNot_39 (by decide) ?_
      exact VV.lle (v_X9_firstNot_46 t_a0 k8 hk8 hf) (lle_s (lle_s (lle_s (lle_s (lle_s (lle_n lle_nil))))))

theorem v_X9_firstNot_8 {w : Wo} {K : Kn} {a0 : Nat} {x1 : Int64} {q : Int32} {m : Mem} (t_a0 : K a0 = some (.inl 8)) : ∀ (n : Nat) (x3 : Int32) (x4 : Int32), f_X9_firstNot_8 K m a0 x1 n x3 x4 = some q → VV w RX9 cX9_firstNot 6 (some .int) rm_X9_firstNot false (QM w K (some (.int q)) m 0 0) K 8 [some (.ref a0), some (.long x1), none, some (.int x3), some (.int x4), none] [] 0 0 m := by
  intro n
  induction n with
  | zero => intro x3 x4 hf; cases hf
  | succ n ih => intro x3 x4 hf; exact v_X9_firstNot_8B (a0 := a0) (x1 := x1) t_a0 (f_X9_firstNot_8 K m a0 x1 n) ih hf

set_option maxHeartbeats 4000000 in
theorem v_X9_firstNot_0 {w : Wo} {K : Kn} {a0 : Nat} {x1 : Int64} {q : Int32} {m : Mem} (t_a0 : K a0 = some (.inl 8)) (hf : f_X9_firstNot K m a0 x1 = some q) : VV w RX9 cX9_firstNot 6 (some .int) rm_X9_firstNot false (QM w K (some (.int q)) m 0 0) K 0 [some (.ref a0), some (.long x1), none, none, none, none] [] 0 0 m := by
  unfold f_X9_firstNot at hf
  refine vv_iconst 1 (v := 0) dX9_firstNot_0 rfl (by decide) ?_
  refine vv_istore_n 2 (L' := [some (.ref a0), some (.long x1), none, some (.int (0 : Int32)), none, none]) dX9_firstNot_1 rfl (Nat.le_of_ble_eq_true rfl) rfl ?_
  refine vv_aload_n 3 dX9_firstNot_2 rfl rfl ?_
  refine gf_RX9_248 6 dX9_firstNot_3 rfl t_a0 ?_
  obtain ⟨z1, e_z1, hf⟩ := bd_s hf
  refine vv_istoreE (q := 8) (v := z1) (L' := [some (.ref a0), some (.long x1), none, some (.int (0 : Int32)), some (.int z1), none]) e_z1 dX9_firstNot_6 rfl (Nat.le_of_ble_eq_true rfl) rfl ?_
  exact v_X9_firstNot_8 t_a0 FU _ _ hf

theorem c_X9_firstNot {w : Wo} {K : Kn} {a0 : Nat} {x1 : Int64} {q : Int32} {m : Mem} (t_a0 : K a0 = some (.inl 8)) (hf : F_X9_firstNot K m a0 x1 = some q) : MM w K K yX9_firstNot cX9_firstNot 6 (some .int) rm_X9_firstNot [.ref a0, .long x1] m (some (.int q)) m 0 0 :=
  mm_of (ini := false) (n := 3) (plainFor_of_name (by decide)) rfl (fun h => by first | rfl | cases h) (Nat.le_of_ble_eq_true rfl) rfl (v_X9_firstNot_0 t_a0 hf)

set_option maxHeartbeats 4000000 in
theorem v_X9_gathers_99 {w : Wo} {K : Kn} {a0 : Nat} {x1 : Int32} {q : Mem} (t_a0 : K a0 = some (.inl 8)) (k7 : Mem → Int32 → Option Mem) (hk7 : ∀ (m : Mem) (x2 : Int32), k7 m x2 = some q → VV w RX9 cX9_gathers 5 none rm_X9_gathers false (QM w K none q 0 0) K 7 [some (.ref a0), some (.int x1), some (.int x2), none, none] [] 0 0 m) {m : Mem} {x2 : Int32} (hf : f_X9_gathers_99 K a0 x1 k7 m x2 = some q) : VV w RX9 cX9_gathers 5 none rm_X9_gathers false (QM w K none q 0 0) K 99 [some (.ref a0), some (.int x1), some (.int x2), none, none] [] 0 0 m := by
  unfold f_X9_gathers_99 at hf
  obtain ⟨z1, e_z1, hf⟩ := bd_s hf
  refine vv_iincE (q := 102) (v := z1) (c := 1) (L' := [some (.ref a0), some (.int x1), some (.int z1), none, none]) e_z1 dX9_gathers_99 rfl rfl (by decide) (Nat.le_of_ble_eq_true rfl) rfl ?_
  refine vv_goto 7 dX9_gathers_102 (by decide) ?_
  exact hk7 _ _ hf

set_option maxHeartbeats 4000000 in
theorem v_X9_gathers_35B {w : Wo} {K : Kn} {a0 : Nat} {x1 : Int32} {q : Mem} (t_a0 : K a0 = some (.inl 8)) (k7 : Mem → Int32 → Option Mem) (hk7 : ∀ (m : Mem) (x2 : Int32), k7 m x2 = some q → VV w RX9 cX9_gathers 5 none rm_X9_gathers false (QM w K none q 0 0) K 7 [some (.ref a0), some (.int x1), some (.int x2), none, none] [] 0 0 m) (k35 : Mem → Int32 → Int32 → Option Mem) (hk35 : ∀ (m : Mem) (x2 : Int32) (x3 : Int32), k35 m x2 x3 = some q → VV w RX9 cX9_gathers 5 none rm_X9_gathers false (QM w K none q 0 0) K 35 [some (.ref a0), some (.int x1), some (.int x2), some (.int x3), none] [] 0 0 m) {m : Mem} {x2 : Int32} {x3 : Int32} (hf : f_X9_gathers_35B K a0 x1 k7 k35 m x2 x3 = some q) : VV w RX9 cX9_gathers 5 none rm_X9_gathers false (QM w K none q 0 0) K 35 [some (.ref a0), some (.int x1), some (.int x2), some (.int x3), none] [] 0 0 m := by
  unfold f_X9_gathers_35B at hf
  refine vv_iload_n 36 dX9_gathers_35 rfl rfl ?_
  refine vv_aload_n 37 dX9_gathers_36 rfl rfl ?_
  refine gf_RX9_223 40 dX9_gathers_37 rfl t_a0 ?_
  refine vv_icmp_ge 99 43 dX9_gathers_40 rfl (by decide) (fun c1 => ?_) (fun c1 => ?_)
  · rw [if_pos c1] at hf
    exact VV.lle (v_X9_gathers_99 t_a0 k7 hk7 hf) (lle_s (lle_s (lle_s (lle_n (lle_s lle_nil)))))
  · rw [if_neg c1] at hf
    refine vv_aload_n 44 dX9_gathers_43 rfl rfl ?_
    obtain ⟨b2, g_b2, hf⟩ := bind_s hf
    have t_b2 := (ldA_spec g_b2).2
    refine gf_RX9_66 47 dX9_gathers_44 rfl t_a0 (ldA_spec g_b2).1 ?_
    refine vv_aload_n 48 dX9_gathers_47 rfl rfl ?_
    refine gf_RX9_248 51 dX9_gathers_48 rfl t_a0 ?_
    refine vv_aload_n 52 dX9_gathers_51 rfl rfl ?_
    obtain ⟨b3, g_b3, hf⟩ := bind_s hf
    have t_b3 := (ldA_spec g_b3).2
    refine gf_RX9_51 55 dX9_gathers_52 rfl t_a0 (ldA_spec g_b3).1 ?_
    refine vv_iload_n 56 dX9_gathers_55 rfl rfl ?_
    obtain ⟨r4, g_r4, hf⟩ := bind_s hf
    refine vv_lald 57 dX9_gathers_56 rfl t_b3 g_r4 ?_
    obtain ⟨m5, g_m5, hf⟩ := bind_s hf
    refine vv_last 58 dX9_gathers_57 rfl t_b2 g_m5 ?_
    refine vv_aload_n 59 dX9_gathers_58 rfl rfl ?_
    obtain ⟨b6, g_b6, hf⟩ := bind_s hf
    have t_b6 := (ldA_spec g_b6).2
    refine gf_RX9_69 62 dX9_gathers_59 rfl t_a0 (ldA_spec g_b6).1 ?_
    refine vv_aload_n 63 dX9_gathers_62 rfl rfl ?_
    refine gf_RX9_248 66 dX9_gathers_63 rfl t_a0 ?_
    refine vv_aload_n 67 dX9_gathers_66 rfl rfl ?_
    obtain ⟨b7, g_b7, hf⟩ := bind_s hf
    have t_b7 := (ldA_spec g_b7).2
    refine gf_RX9_54 70 dX9_gathers_67 rfl t_a0 (ldA_spec g_b7).1 ?_
    refine vv_iload_n 71 dX9_gathers_70 rfl rfl ?_
    obtain ⟨r8, g_r8, hf⟩ := bind_s hf
    refine vv_lald 72 dX9_gathers_71 rfl t_b7 g_r8 ?_
    obtain ⟨m9, g_m9, hf⟩ := bind_s hf
    refine vv_last 73 dX9_gathers_72 rfl t_b6 g_m9 ?_
    refine vv_aload_n 74 dX9_gathers_73 rfl rfl ?_
    obtain ⟨b10, g_b10, hf⟩ := bind_s hf
    have t_b10 := (ldA_spec g_b10).2
    refine gf_RX9_72 77 dX9_gathers_74 rfl t_a0 (ldA_spec g_b10).1 ?_
    refine vv_aload_n 78 dX9_gathers_77 rfl rfl ?_
    refine gf_RX9_248 81 dX9_gathers_78 rfl t_a0 ?_
    refine vv_iload_n 82 dX9_gathers_81 rfl rfl ?_
    obtain ⟨m11, g_m11, hf⟩ := bind_s hf
    refine vv_iast 83 dX9_gathers_82 rfl t_b10 g_m11 ?_
    refine vv_aload_n 84 dX9_gathers_83 rfl rfl ?_
    refine vv_dup 85 dX9_gathers_84 rfl rfl ?_
    refine gf_RX9_248 88 dX9_gathers_85 rfl t_a0 ?_
    refine vv_iconst 89 (v := 1) dX9_gathers_88 rfl (by decide) ?_
    refine vv_iadd 90 dX9_gathers_89 rfl ?_
    obtain ⟨m12, e_m12, hf⟩ := bd_s hf
    refine pf_RX9_248 93 dX9_gathers_90 rfl t_a0 e_m12 ?_
    obtain ⟨z13, e_z13, hf⟩ := bd_s hf
    refine vv_iincE (q := 96) (v := z13) (c := 1) (L' := [some (.ref a0), some (.int x1), some (.int x2), some (.int z13), none]) e_z13 dX9_gathers_93 rfl rfl (by decide) (Nat.le_of_ble_eq_true rfl) rfl ?_
    refine vv_goto 35 dX9_gathers_96 (by decide) ?_
    exact hk35 _ _ _ hf

theorem v_X9_gathers_35 {w : Wo} {K : Kn} {a0 : Nat} {x1 : Int32} {q : Mem} (t_a0 : K a0 = some (.inl 8)) (k7 : Mem → Int32 → Option Mem) (hk7 : ∀ (m : Mem) (x2 : Int32), k7 m x2 = some q → VV w RX9 cX9_gathers 5 none rm_X9_gathers false (QM w K none q 0 0) K 7 [some (.ref a0), some (.int x1), some (.int x2), none, none] [] 0 0 m) : ∀ (n : Nat) (m : Mem) (x2 : Int32) (x3 : Int32), f_X9_gathers_35 K a0 x1 k7 n m x2 x3 = some q → VV w RX9 cX9_gathers 5 none rm_X9_gathers false (QM w K none q 0 0) K 35 [some (.ref a0), some (.int x1), some (.int x2), some (.int x3), none] [] 0 0 m := by
  intro n
  induction n with
  | zero => intro m x2 x3 hf; cases hf
  | succ n ih => intro m x2 x3 hf; exact v_X9_gathers_35B (a0 := a0) (x1 := x1) t_a0 k7 hk7 (f_X9_gathers_35 K a0 x1 k7 n) ih hf

set_option maxHeartbeats 4000000 in
theorem v_X9_gathers_238 {w : Wo} {K : Kn} {a0 : Nat} {x1 : Int32} {q : Mem} (t_a0 : K a0 = some (.inl 8)) (k110 : Mem → Int32 → Option Mem) (hk110 : ∀ (m : Mem) (x2 : Int32), k110 m x2 = some q → VV w RX9 cX9_gathers 5 none rm_X9_gathers false (QM w K none q 0 0) K 110 [some (.ref a0), some (.int x1), some (.int x2), none, none] [] 0 0 m) {m : Mem} {x2 : Int32} {x3 : Int32} (hf : f_X9_gathers_238 K a0 x1 k110 m x2 x3 = some q) : VV w RX9 cX9_gathers 5 none rm_X9_gathers false (QM w K none q 0 0) K 238 [some (.ref a0), some (.int x1), some (.int x2), some (.int x3), none] [] 0 0 m := by
  unfold f_X9_gathers_238 at hf
  refine vv_aload_n 239 dX9_gathers_238 rfl rfl ?_
  obtain ⟨b1, g_b1, hf⟩ := bind_s hf
  have t_b1 := (ldA_spec g_b1).2
  refine gf_RX9_66 242 dX9_gathers_239 rfl t_a0 (ldA_spec g_b1).1 ?_
  refine vv_iload_n 243 dX9_gathers_242 rfl rfl ?_
  refine vv_aload_n 244 dX9_gathers_243 rfl rfl ?_
  obtain ⟨b2, g_b2, hf⟩ := bind_s hf
  have t_b2 := (ldA_spec g_b2).2
  refine gf_RX9_41 247 dX9_gathers_244 rfl t_a0 (ldA_spec g_b2).1 ?_
  refine vv_iload_n 248 dX9_gathers_247 rfl rfl ?_
  obtain ⟨r3, g_r3, hf⟩ := bind_s hf
  refine vv_iald 249 dX9_gathers_248 rfl t_b2 g_r3 ?_
  refine vv_i2l 250 dX9_gathers_249 rfl ?_
  obtain ⟨m4, g_m4, hf⟩ := bind_s hf
  refine vv_last 251 dX9_gathers_250 rfl t_b1 g_m4 ?_
  refine vv_aload_n 252 dX9_gathers_251 rfl rfl ?_
  obtain ⟨b5, g_b5, hf⟩ := bind_s hf
  have t_b5 := (ldA_spec g_b5).2
  refine gf_RX9_69 255 dX9_gathers_252 rfl t_a0 (ldA_spec g_b5).1 ?_
  refine vv_iload_n 256 dX9_gathers_255 rfl rfl ?_
  refine vv_aload_n 257 dX9_gathers_256 rfl rfl ?_
  obtain ⟨b6, g_b6, hf⟩ := bind_s hf
  have t_b6 := (ldA_spec g_b6).2
  refine gf_RX9_44 260 dX9_gathers_257 rfl t_a0 (ldA_spec g_b6).1 ?_
  refine vv_iload_n 261 dX9_gathers_260 rfl rfl ?_
  obtain ⟨r7, g_r7, hf⟩ := bind_s hf
  refine vv_lald 262 dX9_gathers_261 rfl t_b6 g_r7 ?_
  obtain ⟨m8, g_m8, hf⟩ := bind_s hf
  refine vv_last 263 dX9_gathers_262 rfl t_b5 g_m8 ?_
  refine vv_aload_n 264 dX9_gathers_263 rfl rfl ?_
  obtain ⟨b9, g_b9, hf⟩ := bind_s hf
  have t_b9 := (ldA_spec g_b9).2
  refine gf_RX9_72 267 dX9_gathers_264 rfl t_a0 (ldA_spec g_b9).1 ?_
  refine vv_iload_n 268 dX9_gathers_267 rfl rfl ?_
  refine vv_iconst 269 (v := (-1)) dX9_gathers_268 rfl (by decide) ?_
  obtain ⟨m10, g_m10, hf⟩ := bind_s hf
  refine vv_iast 270 dX9_gathers_269 rfl t_b9 g_m10 ?_
  obtain ⟨z11, e_z11, hf⟩ := bd_s hf
  refine vv_iincE (q := 273) (v := z11) (c := 1) (L' := [some (.ref a0), some (.int x1), some (.int z11), some (.int x3), none]) e_z11 dX9_gathers_270 rfl rfl (by decide) (Nat.le_of_ble_eq_true rfl) rfl ?_
  refine vv_goto 110 dX9_gathers_273 (by decide) ?_
  exact VV.lle (hk110 _ _ hf) (lle_s (lle_s (lle_s (lle_n (lle_s lle_nil)))))

set_option maxHeartbeats 4000000 in
theorem v_X9_gathers_168B {w : Wo} {K : Kn} {a0 : Nat} {x1 : Int32} {q : Mem} (t_a0 : K a0 = some (.inl 8)) (k110 : Mem → Int32 → Option Mem) (hk110 : ∀ (m : Mem) (x2 : Int32), k110 m x2 = some q → VV w RX9 cX9_gathers 5 none rm_X9_gathers false (QM w K none q 0 0) K 110 [some (.ref a0), some (.int x1), some (.int x2), none, none] [] 0 0 m) (k168 : Mem → Int32 → Int32 → Int32 → Option Mem) (hk168 : ∀ (m : Mem) (x2 : Int32) (x3 : Int32) (x4 : Int32), k168 m x2 x3 x4 = some q → VV w RX9 cX9_gathers 5 none rm_X9_gathers false (QM w K none q 0 0) K 168 [some (.ref a0), some (.int x1), some (.int x2), some (.int x3), some (.int x4)] [] 0 0 m) {m : Mem} {x2 : Int32} {x3 : Int32} {x4 : Int32} (hf : f_X9_gathers_168B K a0 x1 k110 k168 m x2 x3 x4 = some q) : VV w RX9 cX9_gathers 5 none rm_X9_gathers false (QM w K none q 0 0) K 168 [some (.ref a0), some (.int x1), some (.int x2), some (.int x3), some (.int x4)] [] 0 0 m := by
  unfold f_X9_gathers_168B at hf
  refine vv_iload 170 dX9_gathers_168 rfl rfl ?_
  refine vv_iload_n 171 dX9_gathers_170 rfl rfl ?_
  refine vv_icmp_le 228 174 dX9_gathers_171 rfl (by decide) (fun c1 => ?_) (fun c1 => ?_)
  · rw [if_pos c1] at hf
    refine vv_aload_n 229 dX9_gathers_228 rfl rfl ?_
    refine vv_dup 230 dX9_gathers_229 rfl rfl ?_
    refine gf_RX9_248 233 dX9_gathers_230 rfl t_a0 ?_
    refine vv_iconst 234 (v := 1) dX9_gathers_233 rfl (by decide) ?_
    refine vv_iadd 235 dX9_gathers_234 rfl ?_
    obtain ⟨m2, e_m2, hf⟩ := bd_s hf
    refine pf_RX9_248 238 dX9_gathers_235 rfl t_a0 e_m2 ?_
    exact VV.lle (v_X9_gathers_238 t_a0 k110 hk110 hf) (lle_s (lle_s (lle_s (lle_s (lle_n lle_nil)))))
  · rw [if_neg c1] at hf
    refine vv_aload_n 175 dX9_gathers_174 rfl rfl ?_
    obtain ⟨b3, g_b3, hf⟩ := bind_s hf
    have t_b3 := (ldA_spec g_b3).2
    refine gf_RX9_66 178 dX9_gathers_175 rfl t_a0 (ldA_spec g_b3).1 ?_
    refine vv_iload 180 dX9_gathers_178 rfl rfl ?_
    refine vv_aload_n 181 dX9_gathers_180 rfl rfl ?_
    obtain ⟨b4, g_b4, hf⟩ := bind_s hf
    have t_b4 := (ldA_spec g_b4).2
    refine gf_RX9_66 184 dX9_gathers_181 rfl t_a0 (ldA_spec g_b4).1 ?_
    refine vv_iload 186 dX9_gathers_184 rfl rfl ?_
    refine vv_iconst 187 (v := 1) dX9_gathers_186 rfl (by decide) ?_
    refine vv_isub 188 dX9_gathers_187 rfl ?_
    obtain ⟨r5, g_r5, hf⟩ := bind_s hf
    refine vv_lald 189 dX9_gathers_188 rfl t_b4 g_r5 ?_
    obtain ⟨m6, g_m6, hf⟩ := bind_s hf
    refine vv_last 190 dX9_gathers_189 rfl t_b3 g_m6 ?_
    refine vv_aload_n 191 dX9_gathers_190 rfl rfl ?_
    obtain ⟨b7, g_b7, hf⟩ := bind_s hf
    have t_b7 := (ldA_spec g_b7).2
    refine gf_RX9_69 194 dX9_gathers_191 rfl t_a0 (ldA_spec g_b7).1 ?_
    refine vv_iload 196 dX9_gathers_194 rfl rfl ?_
    refine vv_aload_n 197 dX9_gathers_196 rfl rfl ?_
    obtain ⟨b8, g_b8, hf⟩ := bind_s hf
    have t_b8 := (ldA_spec g_b8).2
    refine gf_RX9_69 200 dX9_gathers_197 rfl t_a0 (ldA_spec g_b8).1 ?_
    refine vv_iload 202 dX9_gathers_200 rfl rfl ?_
    refine vv_iconst 203 (v := 1) dX9_gathers_202 rfl (by decide) ?_
    refine vv_isub 204 dX9_gathers_203 rfl ?_
    obtain ⟨r9, g_r9, hf⟩ := bind_s hf
    refine vv_lald 205 dX9_gathers_204 rfl t_b8 g_r9 ?_
    obtain ⟨m10, g_m10, hf⟩ := bind_s hf
    refine vv_last 206 dX9_gathers_205 rfl t_b7 g_m10 ?_
    refine vv_aload_n 207 dX9_gathers_206 rfl rfl ?_
    obtain ⟨b11, g_b11, hf⟩ := bind_s hf
    have t_b11 := (ldA_spec g_b11).2
    refine gf_RX9_72 210 dX9_gathers_207 rfl t_a0 (ldA_spec g_b11).1 ?_
    refine vv_iload 212 dX9_gathers_210 rfl rfl ?_
    refine vv_aload_n 213 dX9_gathers_212 rfl rfl ?_
    obtain ⟨b12, g_b12, hf⟩ := bind_s hf
    have t_b12 := (ldA_spec g_b12).2
    refine gf_RX9_72 216 dX9_gathers_213 rfl t_a0 (ldA_spec g_b12).1 ?_
    refine vv_iload 218 dX9_gathers_216 rfl rfl ?_
    refine vv_iconst 219 (v := 1) dX9_gathers_218 rfl (by decide) ?_
    refine vv_isub 220 dX9_gathers_219 rfl ?_
    obtain ⟨r13, g_r13, hf⟩ := bind_s hf
    refine vv_iald 221 dX9_gathers_220 rfl t_b12 g_r13 ?_
    obtain ⟨m14, g_m14, hf⟩ := bind_s hf
    refine vv_iast 222 dX9_gathers_221 rfl t_b11 g_m14 ?_
    obtain ⟨z15, e_z15, hf⟩ := bd_s hf
    refine vv_iincE (q := 225) (v := z15) (c := (-1)) (L' := [some (.ref a0), some (.int x1), some (.int x2), some (.int x3), some (.int z15)]) e_z15 dX9_gathers_222 rfl rfl (by decide) (Nat.le_of_ble_eq_true rfl) rfl ?_
    refine vv_goto 168 dX9_gathers_225 (by decide) ?_
    exact hk168 _ _ _ _ hf

theorem v_X9_gathers_168 {w : Wo} {K : Kn} {a0 : Nat} {x1 : Int32} {q : Mem} (t_a0 : K a0 = some (.inl 8)) (k110 : Mem → Int32 → Option Mem) (hk110 : ∀ (m : Mem) (x2 : Int32), k110 m x2 = some q → VV w RX9 cX9_gathers 5 none rm_X9_gathers false (QM w K none q 0 0) K 110 [some (.ref a0), some (.int x1), some (.int x2), none, none] [] 0 0 m) : ∀ (n : Nat) (m : Mem) (x2 : Int32) (x3 : Int32) (x4 : Int32), f_X9_gathers_168 K a0 x1 k110 n m x2 x3 x4 = some q → VV w RX9 cX9_gathers 5 none rm_X9_gathers false (QM w K none q 0 0) K 168 [some (.ref a0), some (.int x1), some (.int x2), some (.int x3), some (.int x4)] [] 0 0 m := by
  intro n
  induction n with
  | zero => intro m x2 x3 x4 hf; cases hf
  | succ n ih => intro m x2 x3 x4 hf; exact v_X9_gathers_168B (a0 := a0) (x1 := x1) t_a0 k110 hk110 (f_X9_gathers_168 K a0 x1 k110 n) ih hf

set_option maxHeartbeats 4000000 in
theorem v_X9_gathers_162 {w : Wo} {K : Kn} {a0 : Nat} {x1 : Int32} {q : Mem} (t_a0 : K a0 = some (.inl 8)) (k110 : Mem → Int32 → Option Mem) (hk110 : ∀ (m : Mem) (x2 : Int32), k110 m x2 = some q → VV w RX9 cX9_gathers 5 none rm_X9_gathers false (QM w K none q 0 0) K 110 [some (.ref a0), some (.int x1), some (.int x2), none, none] [] 0 0 m) {m : Mem} {x2 : Int32} {x3 : Int32} (hf : f_X9_gathers_162 K a0 x1 k110 m x2 x3 = some q) : VV w RX9 cX9_gathers 5 none rm_X9_gathers false (QM w K none q 0 0) K 162 [some (.ref a0), some (.int x1), some (.int x2), some (.int x3), none] [] 0 0 m := by
  unfold f_X9_gathers_162 at hf
  refine vv_aload_n 163 dX9_gathers_162 rfl rfl ?_
  refine gf_RX9_248 166 dX9_gathers_163 rfl t_a0 ?_
  obtain ⟨z1, e_z1, hf⟩ := bd_s hf
  refine vv_istoreE (q := 168) (v := z1) (L' := [some (.ref a0), some (.int x1), some (.int x2), some (.int x3), some (.int z1)]) e_z1 dX9_gathers_166 rfl (Nat.le_of_ble_eq_true rfl) rfl ?_
  exact v_X9_gathers_168 t_a0 k110 hk110 FU _ _ _ _ hf

set_option maxHeartbeats 4000000 in
theorem v_X9_gathers_110B {w : Wo} {K : Kn} {a0 : Nat} {x1 : Int32} {q : Mem} (t_a0 : K a0 = some (.inl 8)) (k110 : Mem → Int32 → Option Mem) (hk110 : ∀ (m : Mem) (x2 : Int32), k110 m x2 = some q → VV w RX9 cX9_gathers 5 none rm_X9_gathers false (QM w K none q 0 0) K 110 [some (.ref a0), some (.int x1), some (.int x2), none, none] [] 0 0 m) {m : Mem} {x2 : Int32} (hf : f_X9_gathers_110B K a0 x1 k110 m x2 = some q) : VV w RX9 cX9_gathers 5 none rm_X9_gathers false (QM w K none q 0 0) K 110 [some (.ref a0), some (.int x1), some (.int x2), none, none] [] 0 0 m := by
  unfold f_X9_gathers_110B at hf
  refine vv_iload_n 111 dX9_gathers_110 rfl rfl ?_
  refine vv_bipush 113 (v := 20) dX9_gathers_111 rfl (by decide) ?_
  refine vv_iload_n 114 dX9_gathers_113 rfl rfl ?_
  refine vv_imul 115 dX9_gathers_114 rfl ?_
  refine vv_aload_n 116 dX9_gathers_115 rfl rfl ?_
  obtain ⟨b1, g_b1, hf⟩ := bind_s hf
  have t_b1 := (ldA_spec g_b1).2
  refine gf_RX9_38 119 dX9_gathers_116 rfl t_a0 (ldA_spec g_b1).1 ?_
  refine vv_iload_n 120 dX9_gathers_119 rfl rfl ?_
  obtain ⟨r2, g_r2, hf⟩ := bind_s hf
  refine vv_iald 121 dX9_gathers_120 rfl t_b1 g_r2 ?_
  refine vv_iadd 122 dX9_gathers_121 rfl ?_
  refine vv_icmp_ge 276 125 dX9_gathers_122 rfl (by decide) (fun c3 => ?_) (fun c3 => ?_)
  · rw [if_pos c3] at hf
    obtain rfl := Option.some.inj hf
    exact vv_vret dX9_gathers_276 rfl
  · rw [if_neg c3] at hf
    refine vv_aload_n 126 dX9_gathers_125 rfl rfl ?_
    refine vv_aload_n 127 dX9_gathers_126 rfl rfl ?_
    obtain ⟨b4, g_b4, hf⟩ := bind_s hf
    have t_b4 := (ldA_spec g_b4).2
    refine gf_RX9_41 130 dX9_gathers_127 rfl t_a0 (ldA_spec g_b4).1 ?_
    refine vv_iload_n 131 dX9_gathers_130 rfl rfl ?_
    obtain ⟨r5, g_r5, hf⟩ := bind_s hf
    refine vv_iald 132 dX9_gathers_131 rfl t_b4 g_r5 ?_
    refine vv_i2l 133 dX9_gathers_132 rfl ?_
    obtain ⟨q6, g_q6, hf⟩ := bind_s hf
    refine vv_callV 136 (st := []) (As := [.long ((r5).toInt64)]) (stk2 := [.int q6]) (cl2 := 0) (sl2 := 0) dX9_gathers_133 rfl lk_RX9_251 w_1373 w_46 rfl t_a0 ⟨(Nat.le_of_ble_eq_true rfl), (Nat.le_of_ble_eq_true rfl)⟩ rfl rfl ⟨(Nat.le_of_ble_eq_true rfl), (Nat.le_of_ble_eq_true rfl)⟩ rfl (Nat.le_of_ble_eq_true rfl) rfl rfl rfl rfl (c_X9_firstNot t_a0 g_q6) ?_
    refine vv_istore_n 137 (L' := [some (.ref a0), some (.int x1), some (.int x2), some (.int q6), none]) dX9_gathers_136 rfl (Nat.le_of_ble_eq_true rfl) rfl ?_
    refine vv_iload_n 138 dX9_gathers_137 rfl rfl ?_
    refine vv_aload_n 139 dX9_gathers_138 rfl rfl ?_
    refine gf_RX9_248 142 dX9_gathers_139 rfl t_a0 ?_
    refine vv_icmp_eq 162 145 dX9_gathers_142 rfl (by decide) (fun c7 => ?_) (fun c7 => ?_)
    · rw [if_pos c7] at hf
      exact v_X9_gathers_162 t_a0 k110 hk110 hf
    · rw [if_neg c7] at hf
      refine vv_aload_n 146 dX9_gathers_145 rfl rfl ?_
      obtain ⟨b8, g_b8, hf⟩ := bind_s hf
      have t_b8 := (ldA_spec g_b8).2
      refine gf_RX9_66 149 dX9_gathers_146 rfl t_a0 (ldA_spec g_b8).1 ?_
      refine vv_iload_n 150 dX9_gathers_149 rfl rfl ?_
      obtain ⟨r9, g_r9, hf⟩ := bind_s hf
      refine vv_lald 151 dX9_gathers_150 rfl t_b8 g_r9 ?_
      refine vv_aload_n 152 dX9_gathers_151 rfl rfl ?_
      obtain ⟨b10, g_b10, hf⟩ := bind_s hf
      have t_b10 := (ldA_spec g_b10).2
      refine gf_RX9_41 155 dX9_gathers_152 rfl t_a0 (ldA_spec g_b10).1 ?_
      refine vv_iload_n 156 dX9_gathers_155 rfl rfl ?_
      obtain ⟨r11, g_r11, hf⟩ := bind_s hf
      refine vv_iald 157 dX9_gathers_156 rfl t_b10 g_r11 ?_
      refine vv_i2l 158 dX9_gathers_157 rfl ?_
      refine vv_lcmp 159 dX9_gathers_158 rfl ?_
      refine vv_if_eq 238 162 dX9_gathers_159 rfl (by decide) (fun c12 => ?_) (fun c12 => ?_)
      · rw [if_pos c12] at hf
        exact v_X9_gathers_238 t_a0 k110 hk110 hf
      · rw [if_neg c12] at hf
        exact v_X9_gathers_162 t_a0 k110 hk110 hf

theorem v_X9_gathers_110 {w : Wo} {K : Kn} {a0 : Nat} {x1 : Int32} {q : Mem} (t_a0 : K a0 = some (.inl 8)) : ∀ (n : Nat) (m : Mem) (x2 : Int32), f_X9_gathers_110 K a0 x1 n m x2 = some q → VV w RX9 cX9_gathers 5 none rm_X9_gathers false (QM w K none q 0 0) K 110 [some (.ref a0), some (.int x1), some (.int x2), none, none] [] 0 0 m := by
  intro n
  induction n with
  | zero => intro m x2 hf; cases hf
  | succ n ih => intro m x2 hf; exact v_X9_gathers_110B (a0 := a0) (x1 := x1) t_a0 (f_X9_gathers_110 K a0 x1 n) ih hf

set_option maxHeartbeats 4000000 in
theorem v_X9_gathers_7B {w : Wo} {K : Kn} {a0 : Nat} {x1 : Int32} {q : Mem} (t_a0 : K a0 = some (.inl 8)) (k7 : Mem → Int32 → Option Mem) (hk7 : ∀ (m : Mem) (x2 : Int32), k7 m x2 = some q → VV w RX9 cX9_gathers 5 none rm_X9_gathers false (QM w K none q 0 0) K 7 [some (.ref a0), some (.int x1), some (.int x2), none, none] [] 0 0 m) {m : Mem} {x2 : Int32} (hf : f_X9_gathers_7B K a0 x1 k7 m x2 = some q) : VV w RX9 cX9_gathers 5 none rm_X9_gathers false (QM w K none q 0 0) K 7 [some (.ref a0), some (.int x1), some (.int x2), none, none] [] 0 0 m := by
  unfold f_X9_gathers_7B at hf
  refine vv_iload_n 8 dX9_gathers_7 rfl rfl ?_
  refine vv_aload_n 9 dX9_gathers_8 rfl rfl ?_
  obtain ⟨b1, g_b1, hf⟩ := bind_s hf
  have t_b1 := (ldA_spec g_b1).2
  refine gf_RX9_16 12 dX9_gathers_9 rfl t_a0 (ldA_spec g_b1).1 ?_
  refine vv_iload_n 13 dX9_gathers_12 rfl rfl ?_
  obtain ⟨r2, g_r2, hf⟩ := bind_s hf
  refine vv_iald 14 dX9_gathers_13 rfl t_b1 g_r2 ?_
  refine vv_icmp_ge 105 17 dX9_gathers_14 rfl (by decide) (fun c3 => ?_) (fun c3 => ?_)
  · rw [if_pos c3] at hf
    refine vv_bipush 107 (v := 20) dX9_gathers_105 rfl (by decide) ?_
    refine vv_iload_n 108 dX9_gathers_107 rfl rfl ?_
    refine vv_imul 109 dX9_gathers_108 rfl ?_
    obtain ⟨z4, e_z4, hf⟩ := bd_s hf
    refine vv_istore_nE (q := 110) (v := z4) (L' := [some (.ref a0), some (.int x1), some (.int z4), none, none]) e_z4 dX9_gathers_109 rfl (Nat.le_of_ble_eq_true rfl) rfl ?_
    exact v_X9_gathers_110 t_a0 FU _ _ hf
  · rw [if_neg c3] at hf
    refine vv_aload_n 18 dX9_gathers_17 rfl rfl ?_
    refine vv_bipush 20 (v := 16) dX9_gathers_18 rfl (by decide) ?_
    refine vv_iload_n 21 dX9_gathers_20 rfl rfl ?_
    refine vv_imul 22 dX9_gathers_21 rfl ?_
    refine vv_iload_n 23 dX9_gathers_22 rfl rfl ?_
    refine vv_iadd 24 dX9_gathers_23 rfl ?_
    obtain ⟨q5, g_q5, hf⟩ := bind_s hf
    refine vv_callV 27 (st := []) (As := [.int (((16 : Int32) * x1) + x2)]) (stk2 := [.int q5.1]) (cl2 := 0) (sl2 := 0) dX9_gathers_24 rfl lk_RX9_245 w_1365 w_44 rfl t_a0 ⟨(Nat.le_of_ble_eq_true rfl), (Nat.le_of_ble_eq_true rfl)⟩ rfl rfl ⟨(Nat.le_of_ble_eq_true rfl), (Nat.le_of_ble_eq_true rfl)⟩ rfl (Nat.le_of_ble_eq_true rfl) rfl rfl rfl rfl (c_X9_isBroken t_a0 g_q5) ?_
    refine vv_if_eq 33 30 dX9_gathers_27 rfl (by decide) (fun c6 => ?_) (fun c6 => ?_)
    · rw [if_pos c6] at hf
      refine vv_iconst 34 (v := 0) dX9_gathers_33 rfl (by decide) ?_
      refine vv_istore_n 35 (L' := [some (.ref a0), some (.int x1), some (.int x2), some (.int (0 : Int32)), none]) dX9_gathers_34 rfl (Nat.le_of_ble_eq_true rfl) rfl ?_
      exact v_X9_gathers_35 t_a0 k7 hk7 FU _ _ _ hf
    · rw [if_neg c6] at hf
      refine vv_goto 99 dX9_gathers_30 (by decide) ?_
      exact v_X9_gathers_99 t_a0 k7 hk7 hf

theorem v_X9_gathers_7 {w : Wo} {K : Kn} {a0 : Nat} {x1 : Int32} {q : Mem} (t_a0 : K a0 = some (.inl 8)) : ∀ (n : Nat) (m : Mem) (x2 : Int32), f_X9_gathers_7 K a0 x1 n m x2 = some q → VV w RX9 cX9_gathers 5 none rm_X9_gathers false (QM w K none q 0 0) K 7 [some (.ref a0), some (.int x1), some (.int x2), none, none] [] 0 0 m := by
  intro n
  induction n with
  | zero => intro m x2 hf; cases hf
  | succ n ih => intro m x2 hf; exact v_X9_gathers_7B (a0 := a0) (x1 := x1) t_a0 (f_X9_gathers_7 K a0 x1 n) ih hf

set_option maxHeartbeats 4000000 in
theorem v_X9_gathers_0 {w : Wo} {K : Kn} {a0 : Nat} {x1 : Int32} {q : Mem} (t_a0 : K a0 = some (.inl 8)) {m : Mem} (hf : f_X9_gathers K a0 x1 m = some q) : VV w RX9 cX9_gathers 5 none rm_X9_gathers false (QM w K none q 0 0) K 0 [some (.ref a0), some (.int x1), none, none, none] [] 0 0 m := by
  unfold f_X9_gathers at hf
  refine vv_aload_n 1 dX9_gathers_0 rfl rfl ?_
  refine vv_iconst 2 (v := 0) dX9_gathers_1 rfl (by decide) ?_
  obtain ⟨m1, e_m1, hf⟩ := bd_s hf
  refine pf_RX9_248 5 dX9_gathers_2 rfl t_a0 e_m1 ?_
  refine vv_iconst 6 (v := 0) dX9_gathers_5 rfl (by decide) ?_
  refine vv_istore_n 7 (L' := [some (.ref a0), some (.int x1), some (.int (0 : Int32)), none, none]) dX9_gathers_6 rfl (Nat.le_of_ble_eq_true rfl) rfl ?_
  exact v_X9_gathers_7 t_a0 FU _ _ hf

theorem c_X9_gathers {w : Wo} {K : Kn} {a0 : Nat} {x1 : Int32} {q : Mem} {m : Mem} (t_a0 : K a0 = some (.inl 8)) (hf : F_X9_gathers K m a0 x1 = some q) : MM w K K yX9_gathers cX9_gathers 5 none rm_X9_gathers [.ref a0, .int x1] m none q 0 0 :=
  mm_of (ini := false) (n := 3) (plainFor_of_name (by decide)) rfl (fun h => by first | rfl | cases h) (Nat.le_of_ble_eq_true rfl) rfl (v_X9_gathers_0 t_a0 hf)
