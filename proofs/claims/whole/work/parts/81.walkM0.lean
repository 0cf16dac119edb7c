/-! ===== the walks ===== -/
abbrev rm_X9_init : Room := { frames := 1, cells := 23, slots := 81020, locals := 24 }
abbrev rm_X9_in : Room := { frames := 0, cells := 0, slots := 0, locals := 0 }
abbrev rm_X9_clears : Room := { frames := 0, cells := 0, slots := 0, locals := 0 }
abbrev rm_X9_begins : Room := { frames := 1, cells := 0, slots := 0, locals := 25 }
abbrev rm_X9_isSeries : Room := { frames := 1, cells := 0, slots := 0, locals := 25 }
abbrev rm_X9_isStamp : Room := { frames := 1, cells := 0, slots := 0, locals := 25 }
abbrev rm_X9_isAbove : Room := { frames := 0, cells := 0, slots := 0, locals := 0 }
abbrev rm_X9_faults : Room := { frames := 0, cells := 0, slots := 0, locals := 0 }
abbrev rm_X9_byteAt : Room := { frames := 0, cells := 0, slots := 0, locals := 0 }
abbrev rm_X9_checkOf : Room := { frames := 1, cells := 0, slots := 0, locals := 22 }
abbrev rm_X9_headStamp : Room := { frames := 1, cells := 0, slots := 0, locals := 22 }
abbrev rm_X9_headBits : Room := { frames := 1, cells := 0, slots := 0, locals := 22 }
abbrev rm_X9_heads : Room := { frames := 0, cells := 0, slots := 0, locals := 0 }
abbrev rm_X9_keepsOne : Room := { frames := 0, cells := 0, slots := 0, locals := 0 }
abbrev rm_X9_bitAt : Room := { frames := 1, cells := 0, slots := 0, locals := 22 }
abbrev rm_X9_gets : Room := { frames := 2, cells := 0, slots := 0, locals := 44 }
abbrev rm_X9_wideOf : Room := { frames := 0, cells := 0, slots := 0, locals := 0 }
abbrev rm_X9_signed : Room := { frames := 0, cells := 0, slots := 0, locals := 0 }
abbrev rm_X9_classOf : Room := { frames := 1, cells := 0, slots := 0, locals := 25 }
abbrev rm_X9_wayOf : Room := { frames := 2, cells := 0, slots := 0, locals := 43 }
abbrev rm_X9_aheadOf : Room := { frames := 2, cells := 0, slots := 0, locals := 43 }
abbrev rm_X9_readsOne : Room := { frames := 3, cells := 0, slots := 0, locals := 69 }
abbrev rm_X9_readsAll : Room := { frames := 4, cells := 0, slots := 0, locals := 101 }
abbrev rm_X9_reads : Room := { frames := 5, cells := 0, slots := 0, locals := 126 }
set_option maxRecDepth 100000 in
set_option maxHeartbeats 4000000 in
theorem v_X9_init_0 {w : Wo} {K : Kn} {a0 : Nat} {q : (Kn × Mem)} {m : Mem} (t_a0 : K a0 = some (.inl 8)) (hf : f_X9_init K a0 m = some q) : VV w RX9 cX9_init 1 none rm_X9_init true (QM w q.1 none q.2 23 81020) K 0 [some (.ref a0)] [] 0 0 m := by
  unfold f_X9_init at hf
  refine vv_aload_n 1 dX9_init_0 rfl rfl ?_
  refine vv_objInit 4 dX9_init_1 rfl w_1074 w_84 w_objcode (Nat.le_of_ble_eq_true rfl) (Nat.le_of_ble_eq_true rfl) ?_
  refine vv_aload_n 5 dX9_init_4 rfl rfl ?_
  refine vv_iconst 6 (v := 5) dX9_init_5 rfl (by decide) ?_
  obtain ⟨b1, e_b1, hf⟩ := bd_s hf
  obtain ⟨K2, e_K2, hf⟩ := bd_s hf
  obtain ⟨m3, e_m3, hf⟩ := bd_s hf
  refine vv_newIE 8 5 (cl2 := 1) (sl2 := 5) e_b1 e_K2 e_m3 dX9_init_6 rfl w_123 (by decide) (by decide) (by decide) (Nat.le_of_ble_eq_true rfl) (Nat.le_of_ble_eq_true rfl) rfl rfl (fun t_b1 => ?_)
  have t_b1 := arrK t_b1
  have t_4 := upK_oldE e_K2 t_a0
  obtain ⟨m5, e_m5, hf⟩ := bd_s hf
  refine pf_RX9_7 11 dX9_init_8 rfl t_4 e_m5 ?_
  refine vv_aload_n 12 dX9_init_11 rfl rfl ?_
  refine vv_iconst 13 (v := 5) dX9_init_12 rfl (by decide) ?_
  obtain ⟨b6, e_b6, hf⟩ := bd_s hf
  obtain ⟨K7, e_K7, hf⟩ := bd_s hf
  obtain ⟨m8, e_m8, hf⟩ := bd_s hf
  refine vv_newIE 15 5 (cl2 := 2) (sl2 := 10) e_b6 e_K7 e_m8 dX9_init_13 rfl w_123 (by decide) (by decide) (by decide) (Nat.le_of_ble_eq_true rfl) (Nat.le_of_ble_eq_true rfl) rfl rfl (fun t_b6 => ?_)
  have t_b6 := arrK t_b6
  have t_9 := upK_oldE e_K7 t_4
  obtain ⟨m10, e_m10, hf⟩ := bd_s hf
  refine pf_RX9_13 18 dX9_init_15 rfl t_9 e_m10 ?_
  refine vv_aload_n 19 dX9_init_18 rfl rfl ?_
  refine vv_iconst 20 (v := 5) dX9_init_19 rfl (by decide) ?_
  obtain ⟨b11, e_b11, hf⟩ := bd_s hf
  obtain ⟨K12, e_K12, hf⟩ := bd_s hf
  obtain ⟨m13, e_m13, hf⟩ := bd_s hf
  refine vv_newIE 22 5 (cl2 := 3) (sl2 := 15) e_b11 e_K12 e_m13 dX9_init_20 rfl w_123 (by decide) (by decide) (by decide) (Nat.le_of_ble_eq_true rfl) (Nat.le_of_ble_eq_true rfl) rfl rfl (fun t_b11 => ?_)
  have t_b11 := arrK t_b11
  have t_14 := upK_oldE e_K12 t_9
  obtain ⟨m15, e_m15, hf⟩ := bd_s hf
  refine pf_RX9_16 25 dX9_init_22 rfl t_14 e_m15 ?_
  refine vv_aload_n 26 dX9_init_25 rfl rfl ?_
  refine vv_sipush 29 (v := 16000) dX9_init_26 rfl (by decide) ?_
  obtain ⟨b16, e_b16, hf⟩ := bd_s hf
  obtain ⟨K17, e_K17, hf⟩ := bd_s hf
  obtain ⟨m18, e_m18, hf⟩ := bd_s hf
  refine vv_newIE 31 16000 (cl2 := 4) (sl2 := 16015) e_b16 e_K17 e_m18 dX9_init_29 rfl w_123 (by decide) (by decide) (by decide) (Nat.le_of_ble_eq_true rfl) (Nat.le_of_ble_eq_true rfl) rfl rfl (fun t_b16 => ?_)
  have t_b16 := arrK t_b16
  have t_19 := upK_oldE e_K17 t_14
  obtain ⟨m20, e_m20, hf⟩ := bd_s hf
  refine pf_RX9_19 34 dX9_init_31 rfl t_19 e_m20 ?_
  refine vv_aload_n 35 dX9_init_34 rfl rfl ?_
  refine vv_bipush 37 (v := 80) dX9_init_35 rfl (by decide) ?_
  obtain ⟨b21, e_b21, hf⟩ := bd_s hf
  obtain ⟨K22, e_K22, hf⟩ := bd_s hf
  obtain ⟨m23, e_m23, hf⟩ := bd_s hf
  refine vv_newIE 39 80 (cl2 := 5) (sl2 := 16095) e_b21 e_K22 e_m23 dX9_init_37 rfl w_123 (by decide) (by decide) (by decide) (Nat.le_of_ble_eq_true rfl) (Nat.le_of_ble_eq_true rfl) rfl rfl (fun t_b21 => ?_)
  have t_b21 := arrK t_b21
  have t_24 := upK_oldE e_K22 t_19
  obtain ⟨m25, e_m25, hf⟩ := bd_s hf
  refine pf_RX9_22 42 dX9_init_39 rfl t_24 e_m25 ?_
  refine vv_aload_n 43 dX9_init_42 rfl rfl ?_
  refine vv_bipush 45 (v := 80) dX9_init_43 rfl (by decide) ?_
  obtain ⟨b26, e_b26, hf⟩ := bd_s hf
  obtain ⟨K27, e_K27, hf⟩ := bd_s hf
  obtain ⟨m28, e_m28, hf⟩ := bd_s hf
  refine vv_newIE 47 80 (cl2 := 6) (sl2 := 16175) e_b26 e_K27 e_m28 dX9_init_45 rfl w_123 (by decide) (by decide) (by decide) (Nat.le_of_ble_eq_true rfl) (Nat.le_of_ble_eq_true rfl) rfl rfl (fun t_b26 => ?_)
  have t_b26 := arrK t_b26
  have t_29 := upK_oldE e_K27 t_24
  obtain ⟨m30, e_m30, hf⟩ := bd_s hf
  refine pf_RX9_25 50 dX9_init_47 rfl t_29 e_m30 ?_
  refine vv_aload_n 51 dX9_init_50 rfl rfl ?_
  refine vv_bipush 53 (v := 80) dX9_init_51 rfl (by decide) ?_
  obtain ⟨b31, e_b31, hf⟩ := bd_s hf
  obtain ⟨K32, e_K32, hf⟩ := bd_s hf
  obtain ⟨m33, e_m33, hf⟩ := bd_s hf
  refine vv_newZE 55 80 (cl2 := 7) (sl2 := 16255) e_b31 e_K32 e_m33 dX9_init_53 rfl w_1199 (by decide) (by decide) (by decide) (Nat.le_of_ble_eq_true rfl) (Nat.le_of_ble_eq_true rfl) rfl rfl (fun t_b31 => ?_)
  have t_b31 := arrK t_b31
  have t_34 := upK_oldE e_K32 t_29
  obtain ⟨m35, e_m35, hf⟩ := bd_s hf
  refine pf_RX9_28 58 dX9_init_55 rfl t_34 e_m35 ?_
  refine vv_aload_n 59 dX9_init_58 rfl rfl ?_
  refine vv_bipush 61 (v := 80) dX9_init_59 rfl (by decide) ?_
  obtain ⟨b36, e_b36, hf⟩ := bd_s hf
  obtain ⟨K37, e_K37, hf⟩ := bd_s hf
  obtain ⟨m38, e_m38, hf⟩ := bd_s hf
  refine vv_newIE 63 80 (cl2 := 8) (sl2 := 16335) e_b36 e_K37 e_m38 dX9_init_61 rfl w_123 (by decide) (by decide) (by decide) (Nat.le_of_ble_eq_true rfl) (Nat.le_of_ble_eq_true rfl) rfl rfl (fun t_b36 => ?_)
  have t_b36 := arrK t_b36
  have t_39 := upK_oldE e_K37 t_34
  obtain ⟨m40, e_m40, hf⟩ := bd_s hf
  refine pf_RX9_32 66 dX9_init_63 rfl t_39 e_m40 ?_
  refine vv_aload_n 67 dX9_init_66 rfl rfl ?_
  refine vv_bipush 69 (v := 80) dX9_init_67 rfl (by decide) ?_
  obtain ⟨b41, e_b41, hf⟩ := bd_s hf
  obtain ⟨K42, e_K42, hf⟩ := bd_s hf
  obtain ⟨m43, e_m43, hf⟩ := bd_s hf
  refine vv_newIE 71 80 (cl2 := 9) (sl2 := 16415) e_b41 e_K42 e_m43 dX9_init_69 rfl w_123 (by decide) (by decide) (by decide) (Nat.le_of_ble_eq_true rfl) (Nat.le_of_ble_eq_true rfl) rfl rfl (fun t_b41 => ?_)
  have t_b41 := arrK t_b41
  have t_44 := upK_oldE e_K42 t_39
  obtain ⟨m45, e_m45, hf⟩ := bd_s hf
  refine pf_RX9_35 74 dX9_init_71 rfl t_44 e_m45 ?_
  refine vv_aload_n 75 dX9_init_74 rfl rfl ?_
  refine vv_iconst 76 (v := 5) dX9_init_75 rfl (by decide) ?_
  obtain ⟨b46, e_b46, hf⟩ := bd_s hf
  obtain ⟨K47, e_K47, hf⟩ := bd_s hf
  obtain ⟨m48, e_m48, hf⟩ := bd_s hf
  refine vv_newIE 78 5 (cl2 := 10) (sl2 := 16420) e_b46 e_K47 e_m48 dX9_init_76 rfl w_123 (by decide) (by decide) (by decide) (Nat.le_of_ble_eq_true rfl) (Nat.le_of_ble_eq_true rfl) rfl rfl (fun t_b46 => ?_)
  have t_b46 := arrK t_b46
  have t_49 := upK_oldE e_K47 t_44
  obtain ⟨m50, e_m50, hf⟩ := bd_s hf
  refine pf_RX9_38 81 dX9_init_78 rfl t_49 e_m50 ?_
  refine vv_aload_n 82 dX9_init_81 rfl rfl ?_
  refine vv_bipush 84 (v := 100) dX9_init_82 rfl (by decide) ?_
  obtain ⟨b51, e_b51, hf⟩ := bd_s hf
  obtain ⟨K52, e_K52, hf⟩ := bd_s hf
  obtain ⟨m53, e_m53, hf⟩ := bd_s hf
  refine vv_newIE 86 100 (cl2 := 11) (sl2 := 16520) e_b51 e_K52 e_m53 dX9_init_84 rfl w_123 (by decide) (by decide) (by decide) (Nat.le_of_ble_eq_true rfl) (Nat.le_of_ble_eq_true rfl) rfl rfl (fun t_b51 => ?_)
  have t_b51 := arrK t_b51
  have t_54 := upK_oldE e_K52 t_49
  obtain ⟨m55, e_m55, hf⟩ := bd_s hf
  refine pf_RX9_41 89 dX9_init_86 rfl t_54 e_m55 ?_
  refine vv_aload_n 90 dX9_init_89 rfl rfl ?_
  refine vv_bipush 92 (v := 100) dX9_init_90 rfl (by decide) ?_
  obtain ⟨b56, e_b56, hf⟩ := bd_s hf
  obtain ⟨K57, e_K57, hf⟩ := bd_s hf
  obtain ⟨m58, e_m58, hf⟩ := bd_s hf
  refine vv_newJE 94 100 (cl2 := 12) (sl2 := 16620) e_b56 e_K57 e_m58 dX9_init_92 rfl w_124 (by decide) (by decide) (by decide) (Nat.le_of_ble_eq_true rfl) (Nat.le_of_ble_eq_true rfl) rfl rfl (fun t_b56 => ?_)
  have t_b56 := arrK t_b56
  have t_59 := upK_oldE e_K57 t_54
  obtain ⟨m60, e_m60, hf⟩ := bd_s hf
  refine pf_RX9_44 97 dX9_init_94 rfl t_59 e_m60 ?_
  refine vv_aload_n 98 dX9_init_97 rfl rfl ?_
  refine vv_sipush 101 (v := 200) dX9_init_98 rfl (by decide) ?_
  obtain ⟨b61, e_b61, hf⟩ := bd_s hf
  obtain ⟨K62, e_K62, hf⟩ := bd_s hf
  obtain ⟨m63, e_m63, hf⟩ := bd_s hf
  refine vv_newIE 103 200 (cl2 := 13) (sl2 := 16820) e_b61 e_K62 e_m63 dX9_init_101 rfl w_123 (by decide) (by decide) (by decide) (Nat.le_of_ble_eq_true rfl) (Nat.le_of_ble_eq_true rfl) rfl rfl (fun t_b61 => ?_)
  have t_b61 := arrK t_b61
  have t_64 := upK_oldE e_K62 t_59
  obtain ⟨m65, e_m65, hf⟩ := bd_s hf
  refine pf_RX9_48 106 dX9_init_103 rfl t_64 e_m65 ?_
  refine vv_aload_n 107 dX9_init_106 rfl rfl ?_
  refine vv_sipush 110 (v := 800) dX9_init_107 rfl (by decide) ?_
  obtain ⟨b66, e_b66, hf⟩ := bd_s hf
  obtain ⟨K67, e_K67, hf⟩ := bd_s hf
  obtain ⟨m68, e_m68, hf⟩ := bd_s hf
  refine vv_newJE 112 800 (cl2 := 14) (sl2 := 17620) e_b66 e_K67 e_m68 dX9_init_110 rfl w_124 (by decide) (by decide) (by decide) (Nat.le_of_ble_eq_true rfl) (Nat.le_of_ble_eq_true rfl) rfl rfl (fun t_b66 => ?_)
  have t_b66 := arrK t_b66
  have t_69 := upK_oldE e_K67 t_64
  obtain ⟨m70, e_m70, hf⟩ := bd_s hf
  refine pf_RX9_51 115 dX9_init_112 rfl t_69 e_m70 ?_
  refine vv_aload_n 116 dX9_init_115 rfl rfl ?_
  refine vv_sipush 119 (v := 800) dX9_init_116 rfl (by decide) ?_
  obtain ⟨b71, e_b71, hf⟩ := bd_s hf
  obtain ⟨K72, e_K72, hf⟩ := bd_s hf
  obtain ⟨m73, e_m73, hf⟩ := bd_s hf
  refine vv_newJE 121 800 (cl2 := 15) (sl2 := 18420) e_b71 e_K72 e_m73 dX9_init_119 rfl w_124 (by decide) (by decide) (by decide) (Nat.le_of_ble_eq_true rfl) (Nat.le_of_ble_eq_true rfl) rfl rfl (fun t_b71 => ?_)
  have t_b71 := arrK t_b71
  have t_74 := upK_oldE e_K72 t_69
  obtain ⟨m75, e_m75, hf⟩ := bd_s hf
  refine pf_RX9_54 124 dX9_init_121 rfl t_74 e_m75 ?_
  refine vv_aload_n 125 dX9_init_124 rfl rfl ?_
  refine vv_sipush 128 (v := 800) dX9_init_125 rfl (by decide) ?_
  obtain ⟨b76, e_b76, hf⟩ := bd_s hf
  obtain ⟨K77, e_K77, hf⟩ := bd_s hf
  obtain ⟨m78, e_m78, hf⟩ := bd_s hf
  refine vv_newIE 130 800 (cl2 := 16) (sl2 := 19220) e_b76 e_K77 e_m78 dX9_init_128 rfl w_123 (by decide) (by decide) (by decide) (Nat.le_of_ble_eq_true rfl) (Nat.le_of_ble_eq_true rfl) rfl rfl (fun t_b76 => ?_)
  have t_b76 := arrK t_b76
  have t_79 := upK_oldE e_K77 t_74
  obtain ⟨m80, e_m80, hf⟩ := bd_s hf
  refine pf_RX9_57 133 dX9_init_130 rfl t_79 e_m80 ?_
  refine vv_aload_n 134 dX9_init_133 rfl rfl ?_
  refine vv_sipush 137 (v := 800) dX9_init_134 rfl (by decide) ?_
  obtain ⟨b81, e_b81, hf⟩ := bd_s hf
  obtain ⟨K82, e_K82, hf⟩ := bd_s hf
  obtain ⟨m83, e_m83, hf⟩ := bd_s hf
  refine vv_newIE 139 800 (cl2 := 17) (sl2 := 20020) e_b81 e_K82 e_m83 dX9_init_137 rfl w_123 (by decide) (by decide) (by decide) (Nat.le_of_ble_eq_true rfl) (Nat.le_of_ble_eq_true rfl) rfl rfl (fun t_b81 => ?_)
  have t_b81 := arrK t_b81
  have t_84 := upK_oldE e_K82 t_79
  obtain ⟨m85, e_m85, hf⟩ := bd_s hf
  refine pf_RX9_60 142 dX9_init_139 rfl t_84 e_m85 ?_
  refine vv_aload_n 143 dX9_init_142 rfl rfl ?_
  refine vv_sipush 146 (v := 800) dX9_init_143 rfl (by decide) ?_
  obtain ⟨b86, e_b86, hf⟩ := bd_s hf
  obtain ⟨K87, e_K87, hf⟩ := bd_s hf
  obtain ⟨m88, e_m88, hf⟩ := bd_s hf
  refine vv_newIE 148 800 (cl2 := 18) (sl2 := 20820) e_b86 e_K87 e_m88 dX9_init_146 rfl w_123 (by decide) (by decide) (by decide) (Nat.le_of_ble_eq_true rfl) (Nat.le_of_ble_eq_true rfl) rfl rfl (fun t_b86 => ?_)
  have t_b86 := arrK t_b86
  have t_89 := upK_oldE e_K87 t_84
  obtain ⟨m90, e_m90, hf⟩ := bd_s hf
  refine pf_RX9_63 151 dX9_init_148 rfl t_89 e_m90 ?_
  refine vv_aload_n 152 dX9_init_151 rfl rfl ?_
  refine vv_sipush 155 (v := 12040) dX9_init_152 rfl (by decide) ?_
  obtain ⟨b91, e_b91, hf⟩ := bd_s hf
  obtain ⟨K92, e_K92, hf⟩ := bd_s hf
  obtain ⟨m93, e_m93, hf⟩ := bd_s hf
  refine vv_newJE 157 12040 (cl2 := 19) (sl2 := 32860) e_b91 e_K92 e_m93 dX9_init_155 rfl w_124 (by decide) (by decide) (by decide) (Nat.le_of_ble_eq_true rfl) (Nat.le_of_ble_eq_true rfl) rfl rfl (fun t_b91 => ?_)
  have t_b91 := arrK t_b91
  have t_94 := upK_oldE e_K92 t_89
  obtain ⟨m95, e_m95, hf⟩ := bd_s hf
  refine pf_RX9_66 160 dX9_init_157 rfl t_94 e_m95 ?_
  refine vv_aload_n 161 dX9_init_160 rfl rfl ?_
  refine vv_sipush 164 (v := 12040) dX9_init_161 rfl (by decide) ?_
  obtain ⟨b96, e_b96, hf⟩ := bd_s hf
  obtain ⟨K97, e_K97, hf⟩ := bd_s hf
  obtain ⟨m98, e_m98, hf⟩ := bd_s hf
  refine vv_newJE 166 12040 (cl2 := 20) (sl2 := 44900) e_b96 e_K97 e_m98 dX9_init_164 rfl w_124 (by decide) (by decide) (by decide) (Nat.le_of_ble_eq_true rfl) (Nat.le_of_ble_eq_true rfl) rfl rfl (fun t_b96 => ?_)
  have t_b96 := arrK t_b96
  have t_99 := upK_oldE e_K97 t_94
  obtain ⟨m100, e_m100, hf⟩ := bd_s hf
  refine pf_RX9_69 169 dX9_init_166 rfl t_99 e_m100 ?_
  refine vv_aload_n 170 dX9_init_169 rfl rfl ?_
  refine vv_sipush 173 (v := 12040) dX9_init_170 rfl (by decide) ?_
  obtain ⟨b101, e_b101, hf⟩ := bd_s hf
  obtain ⟨K102, e_K102, hf⟩ := bd_s hf
  obtain ⟨m103, e_m103, hf⟩ := bd_s hf
  refine vv_newIE 175 12040 (cl2 := 21) (sl2 := 56940) e_b101 e_K102 e_m103 dX9_init_173 rfl w_123 (by decide) (by decide) (by decide) (Nat.le_of_ble_eq_true rfl) (Nat.le_of_ble_eq_true rfl) rfl rfl (fun t_b101 => ?_)
  have t_b101 := arrK t_b101
  have t_104 := upK_oldE e_K102 t_99
  obtain ⟨m105, e_m105, hf⟩ := bd_s hf
  refine pf_RX9_72 178 dX9_init_175 rfl t_104 e_m105 ?_
  refine vv_aload_n 179 dX9_init_178 rfl rfl ?_
  refine vv_sipush 182 (v := 12040) dX9_init_179 rfl (by decide) ?_
  obtain ⟨b106, e_b106, hf⟩ := bd_s hf
  obtain ⟨K107, e_K107, hf⟩ := bd_s hf
  obtain ⟨m108, e_m108, hf⟩ := bd_s hf
  refine vv_newJE 184 12040 (cl2 := 22) (sl2 := 68980) e_b106 e_K107 e_m108 dX9_init_182 rfl w_124 (by decide) (by decide) (by decide) (Nat.le_of_ble_eq_true rfl) (Nat.le_of_ble_eq_true rfl) rfl rfl (fun t_b106 => ?_)
  have t_b106 := arrK t_b106
  have t_109 := upK_oldE e_K107 t_104
  obtain ⟨m110, e_m110, hf⟩ := bd_s hf
  refine pf_RX9_75 187 dX9_init_184 rfl t_109 e_m110 ?_
  refine vv_aload_n 188 dX9_init_187 rfl rfl ?_
  refine vv_sipush 191 (v := 12040) dX9_init_188 rfl (by decide) ?_
  obtain ⟨b111, e_b111, hf⟩ := bd_s hf
  obtain ⟨K112, e_K112, hf⟩ := bd_s hf
  obtain ⟨m113, e_m113, hf⟩ := bd_s hf
  refine vv_newJE 193 12040 (cl2 := 23) (sl2 := 81020) e_b111 e_K112 e_m113 dX9_init_191 rfl w_124 (by decide) (by decide) (by decide) (Nat.le_of_ble_eq_true rfl) (Nat.le_of_ble_eq_true rfl) rfl rfl (fun t_b111 => ?_)
  have t_b111 := arrK t_b111
  have t_114 := upK_oldE e_K112 t_109
  obtain ⟨m115, e_m115, hf⟩ := bd_s hf
  refine pf_RX9_78 196 dX9_init_193 rfl t_114 e_m115 ?_
  obtain rfl := Option.some.inj hf
  exact vv_vret dX9_init_196 rfl

theorem c_X9_init {w : Wo} {K : Kn} {a0 : Nat} {q : (Kn × Mem)} {m : Mem} (t_a0 : K a0 = some (.inl 8)) (hf : F_X9_init K m a0 = some q) : MM w K q.1 yX9_init cX9_init 1 none rm_X9_init [.ref a0] m none q.2 23 81020 :=
  mm_of (ini := true) (n := 0) (plainFor_of_name (by decide)) rfl (fun h => by first | rfl | cases h) (Nat.le_of_ble_eq_true rfl) rfl (v_X9_init_0 t_a0 hf)

set_option maxRecDepth 100000 in
theorem e_X9_init {K : Kn} {a0 : Nat} {q : (Kn × Mem)} {m : Mem} (hf : F_X9_init K m a0 = some q) : ∀ x c, K x = some c → q.1 x = some c := by
  unfold F_X9_init f_X9_init at hf
  obtain ⟨b1, e_b1, hf⟩ := bd_s hf
  obtain ⟨K2, e_K2, hf⟩ := bd_s hf
  obtain ⟨m3, e_m3, hf⟩ := bd_s hf
  obtain ⟨m5, e_m5, hf⟩ := bd_s hf
  obtain ⟨b6, e_b6, hf⟩ := bd_s hf
  obtain ⟨K7, e_K7, hf⟩ := bd_s hf
  obtain ⟨m8, e_m8, hf⟩ := bd_s hf
  obtain ⟨m10, e_m10, hf⟩ := bd_s hf
  obtain ⟨b11, e_b11, hf⟩ := bd_s hf
  obtain ⟨K12, e_K12, hf⟩ := bd_s hf
  obtain ⟨m13, e_m13, hf⟩ := bd_s hf
  obtain ⟨m15, e_m15, hf⟩ := bd_s hf
  obtain ⟨b16, e_b16, hf⟩ := bd_s hf
  obtain ⟨K17, e_K17, hf⟩ := bd_s hf
  obtain ⟨m18, e_m18, hf⟩ := bd_s hf
  obtain ⟨m20, e_m20, hf⟩ := bd_s hf
  obtain ⟨b21, e_b21, hf⟩ := bd_s hf
  obtain ⟨K22, e_K22, hf⟩ := bd_s hf
  obtain ⟨m23, e_m23, hf⟩ := bd_s hf
  obtain ⟨m25, e_m25, hf⟩ := bd_s hf
  obtain ⟨b26, e_b26, hf⟩ := bd_s hf
  obtain ⟨K27, e_K27, hf⟩ := bd_s hf
  obtain ⟨m28, e_m28, hf⟩ := bd_s hf
  obtain ⟨m30, e_m30, hf⟩ := bd_s hf
  obtain ⟨b31, e_b31, hf⟩ := bd_s hf
  obtain ⟨K32, e_K32, hf⟩ := bd_s hf
  obtain ⟨m33, e_m33, hf⟩ := bd_s hf
  obtain ⟨m35, e_m35, hf⟩ := bd_s hf
  obtain ⟨b36, e_b36, hf⟩ := bd_s hf
  obtain ⟨K37, e_K37, hf⟩ := bd_s hf
  obtain ⟨m38, e_m38, hf⟩ := bd_s hf
  obtain ⟨m40, e_m40, hf⟩ := bd_s hf
  obtain ⟨b41, e_b41, hf⟩ := bd_s hf
  obtain ⟨K42, e_K42, hf⟩ := bd_s hf
  obtain ⟨m43, e_m43, hf⟩ := bd_s hf
  obtain ⟨m45, e_m45, hf⟩ := bd_s hf
  obtain ⟨b46, e_b46, hf⟩ := bd_s hf
  obtain ⟨K47, e_K47, hf⟩ := bd_s hf
  obtain ⟨m48, e_m48, hf⟩ := bd_s hf
  obtain ⟨m50, e_m50, hf⟩ := bd_s hf
  obtain ⟨b51, e_b51, hf⟩ := bd_s hf
  obtain ⟨K52, e_K52, hf⟩ := bd_s hf
  obtain ⟨m53, e_m53, hf⟩ := bd_s hf
  obtain ⟨m55, e_m55, hf⟩ := bd_s hf
  obtain ⟨b56, e_b56, hf⟩ := bd_s hf
  obtain ⟨K57, e_K57, hf⟩ := bd_s hf
  obtain ⟨m58, e_m58, hf⟩ := bd_s hf
  obtain ⟨m60, e_m60, hf⟩ := bd_s hf
  obtain ⟨b61, e_b61, hf⟩ := bd_s hf
  obtain ⟨K62, e_K62, hf⟩ := bd_s hf
  obtain ⟨m63, e_m63, hf⟩ := bd_s hf
  obtain ⟨m65, e_m65, hf⟩ := bd_s hf
  obtain ⟨b66, e_b66, hf⟩ := bd_s hf
  obtain ⟨K67, e_K67, hf⟩ := bd_s hf
  obtain ⟨m68, e_m68, hf⟩ := bd_s hf
  obtain ⟨m70, e_m70, hf⟩ := bd_s hf
  obtain ⟨b71, e_b71, hf⟩ := bd_s hf
  obtain ⟨K72, e_K72, hf⟩ := bd_s hf
  obtain ⟨m73, e_m73, hf⟩ := bd_s hf
  obtain ⟨m75, e_m75, hf⟩ := bd_s hf
  obtain ⟨b76, e_b76, hf⟩ := bd_s hf
  obtain ⟨K77, e_K77, hf⟩ := bd_s hf
  obtain ⟨m78, e_m78, hf⟩ := bd_s hf
  obtain ⟨m80, e_m80, hf⟩ := bd_s hf
  obtain ⟨b81, e_b81, hf⟩ := bd_s hf
  obtain ⟨K82, e_K82, hf⟩ := bd_s hf
  obtain ⟨m83, e_m83, hf⟩ := bd_s hf
  obtain ⟨m85, e_m85, hf⟩ := bd_s hf
  obtain ⟨b86, e_b86, hf⟩ := bd_s hf
  obtain ⟨K87, e_K87, hf⟩ := bd_s hf
  obtain ⟨m88, e_m88, hf⟩ := bd_s hf
  obtain ⟨m90, e_m90, hf⟩ := bd_s hf
  obtain ⟨b91, e_b91, hf⟩ := bd_s hf
  obtain ⟨K92, e_K92, hf⟩ := bd_s hf
  obtain ⟨m93, e_m93, hf⟩ := bd_s hf
  obtain ⟨m95, e_m95, hf⟩ := bd_s hf
  obtain ⟨b96, e_b96, hf⟩ := bd_s hf
  obtain ⟨K97, e_K97, hf⟩ := bd_s hf
  obtain ⟨m98, e_m98, hf⟩ := bd_s hf
  obtain ⟨m100, e_m100, hf⟩ := bd_s hf
  obtain ⟨b101, e_b101, hf⟩ := bd_s hf
  obtain ⟨K102, e_K102, hf⟩ := bd_s hf
  obtain ⟨m103, e_m103, hf⟩ := bd_s hf
  obtain ⟨m105, e_m105, hf⟩ := bd_s hf
  obtain ⟨b106, e_b106, hf⟩ := bd_s hf
  obtain ⟨K107, e_K107, hf⟩ := bd_s hf
  obtain ⟨m108, e_m108, hf⟩ := bd_s hf
  obtain ⟨m110, e_m110, hf⟩ := bd_s hf
  obtain ⟨b111, e_b111, hf⟩ := bd_s hf
  obtain ⟨K112, e_K112, hf⟩ := bd_s hf
  obtain ⟨m113, e_m113, hf⟩ := bd_s hf
  obtain ⟨m115, e_m115, hf⟩ := bd_s hf
  obtain rfl := Option.some.inj hf
  cases hf
  intro x c h
  exact (upK_oldE e_K112 (upK_oldE e_K107 (upK_oldE e_K102 (upK_oldE e_K97 (upK_oldE e_K92 (upK_oldE e_K87 (upK_oldE e_K82 (upK_oldE e_K77 (upK_oldE e_K72 (upK_oldE e_K67 (upK_oldE e_K62 (upK_oldE e_K57 (upK_oldE e_K52 (upK_oldE e_K47 (upK_oldE e_K42 (upK_oldE e_K37 (upK_oldE e_K32 (upK_oldE e_K27 (upK_oldE e_K22 (upK_oldE e_K17 (upK_oldE e_K12 (upK_oldE e_K7 (upK_oldE e_K2 h)))))))))))))))))))))))

set_option maxHeartbeats 4000000 in
theorem v_X9_in_17 {w : Wo} {K : Kn} {x0 : Int64} {x2 : Int64} {x4 : Int64} {q : Int32} {m : Mem} (hf : f_X9_in_17 x0 x2 x4 = some q) : VV w RX9 cX9_in 6 (some .boolean) rm_X9_in false (QM w K (some (.int q)) m 0 0) K 17 [none, none, none, none, none, none] [] 0 0 m := by
  unfold f_X9_in_17 at hf
  refine vv_iconst 18 (v := 0) dX9_in_17 rfl (by decide) ?_
  obtain rfl := Option.some.inj hf
  exact vv_zret dX9_in_18 rfl (Or.inl rfl)

set_option maxHeartbeats 4000000 in
theorem v_X9_in_0 {w : Wo} {K : Kn} {x0 : Int64} {x2 : Int64} {x4 : Int64} {q : Int32} {m : Mem} (hf : f_X9_in x0 x2 x4 = some q) : VV w RX9 cX9_in 6 (some .boolean) rm_X9_in false (QM w K (some (.int q)) m 0 0) K 0 [some (.long x0), none, some (.long x2), none, some (.long x4), none] [] 0 0 m := by
  unfold f_X9_in at hf
  refine vv_lload_n 1 dX9_in_0 rfl rfl ?_
  refine vv_lload_n 2 dX9_in_1 rfl rfl ?_
  refine vv_lcmp 3 dX9_in_2 rfl ?_
  refine vv_if_lt 17 6 dX9_in_3 rfl (by decide) (fun c1 => ?_) (fun c1 => ?_)
  · rw [if_pos c1] at hf
    exact VV.lle (v_X9_in_17 hf) (lle_n (lle_s (lle_n (lle_s (lle_n (lle_s lle_nil))))))
  · rw [if_neg c1] at hf
    refine vv_lload_n 7 dX9_in_6 rfl rfl ?_
    refine vv_lload 9 dX9_in_7 rfl rfl ?_
    refine vv_lcmp 10 dX9_in_9 rfl ?_
    refine vv_if_gt 17 13 dX9_in_10 rfl (by decide) (fun c2 => ?_) (fun c2 => ?_)
    · rw [if_pos c2] at hf
      exact VV.lle (v_X9_in_17 hf) (lle_n (lle_s (lle_n (lle_s (lle_n (lle_s lle_nil))))))
    · rw [if_neg c2] at hf
      refine vv_iconst 14 (v := 1) dX9_in_13 rfl (by decide) ?_
      refine vv_goto 18 dX9_in_14 (by decide) ?_
      obtain rfl := Option.some.inj hf
      exact vv_zret dX9_in_18 rfl (Or.inr rfl)

theorem c_X9_in {w : Wo} {K : Kn} {x0 : Int64} {x2 : Int64} {x4 : Int64} {q : Int32} {m : Mem} (hf : F_X9_in x0 x2 x4 = some q) : MM w K K yX9_in cX9_in 6 (some .boolean) rm_X9_in [.long x0, .long x2, .long x4] m (some (.int q)) m 0 0 :=
  mm_of (ini := false) (n := 0) (plainFor_of_name (by decide)) rfl (fun h => by first | rfl | cases h) (Nat.le_of_ble_eq_true rfl) rfl (v_X9_in_0 hf)

set_option maxHeartbeats 4000000 in
theorem v_X9_clears_0 {w : Wo} {K : Kn} {a0 : Nat} {x1 : Int32} {x2 : Int32} {q : Mem} (t_a0 : K a0 = some (.inl 8)) {m : Mem} (hf : f_X9_clears K a0 x1 x2 m = some q) : VV w RX9 cX9_clears 3 none rm_X9_clears false (QM w K none q 0 0) K 0 [some (.ref a0), some (.int x1), some (.int x2)] [] 0 0 m := by
  unfold f_X9_clears at hf
  refine vv_aload_n 1 dX9_clears_0 rfl rfl ?_
  obtain ⟨b1, g_b1, hf⟩ := bind_s hf
  have t_b1 := (ldA_spec g_b1).2
  refine gf_RX9_7 4 dX9_clears_1 rfl t_a0 (ldA_spec g_b1).1 ?_
  refine vv_iload_n 5 dX9_clears_4 rfl rfl ?_
  refine vv_iload_n 6 dX9_clears_5 rfl rfl ?_
  obtain ⟨m2, g_m2, hf⟩ := bind_s hf
  refine vv_iast 7 dX9_clears_6 rfl t_b1 g_m2 ?_
  refine vv_aload_n 8 dX9_clears_7 rfl rfl ?_
  obtain ⟨b3, g_b3, hf⟩ := bind_s hf
  have t_b3 := (ldA_spec g_b3).2
  refine gf_RX9_13 11 dX9_clears_8 rfl t_a0 (ldA_spec g_b3).1 ?_
  refine vv_iload_n 12 dX9_clears_11 rfl rfl ?_
  refine vv_iconst 13 (v := (-1)) dX9_clears_12 rfl (by decide) ?_
  obtain ⟨m4, g_m4, hf⟩ := bind_s hf
  refine vv_iast 14 dX9_clears_13 rfl t_b3 g_m4 ?_
  refine vv_aload_n 15 dX9_clears_14 rfl rfl ?_
  obtain ⟨b5, g_b5, hf⟩ := bind_s hf
  have t_b5 := (ldA_spec g_b5).2
  refine gf_RX9_16 18 dX9_clears_15 rfl t_a0 (ldA_spec g_b5).1 ?_
  refine vv_iload_n 19 dX9_clears_18 rfl rfl ?_
  refine vv_iconst 20 (v := 0) dX9_clears_19 rfl (by decide) ?_
  obtain ⟨m6, g_m6, hf⟩ := bind_s hf
  refine vv_iast 21 dX9_clears_20 rfl t_b5 g_m6 ?_
  refine vv_aload_n 22 dX9_clears_21 rfl rfl ?_
  obtain ⟨b7, g_b7, hf⟩ := bind_s hf
  have t_b7 := (ldA_spec g_b7).2
  refine gf_RX9_38 25 dX9_clears_22 rfl t_a0 (ldA_spec g_b7).1 ?_
  refine vv_iload_n 26 dX9_clears_25 rfl rfl ?_
  refine vv_iconst 27 (v := 0) dX9_clears_26 rfl (by decide) ?_
  obtain ⟨m8, g_m8, hf⟩ := bind_s hf
  refine vv_iast 28 dX9_clears_27 rfl t_b7 g_m8 ?_
  obtain rfl := Option.some.inj hf
  exact vv_vret dX9_clears_28 rfl

theorem c_X9_clears {w : Wo} {K : Kn} {a0 : Nat} {x1 : Int32} {x2 : Int32} {q : Mem} {m : Mem} (t_a0 : K a0 = some (.inl 8)) (hf : F_X9_clears K m a0 x1 x2 = some q) : MM w K K yX9_clears cX9_clears 3 none rm_X9_clears [.ref a0, .int x1, .int x2] m none q 0 0 :=
  mm_of (ini := false) (n := 0) (plainFor_of_name (by decide)) rfl (fun h => by first | rfl | cases h) (Nat.le_of_ble_eq_true rfl) rfl (v_X9_clears_0 t_a0 hf)

set_option maxHeartbeats 4000000 in
theorem v_X9_begins_0 {w : Wo} {K : Kn} {a0 : Nat} {x1 : Int32} {x2 : Int32} {q : (Int32 × Mem)} (t_a0 : K a0 = some (.inl 8)) {m : Mem} (hf : f_X9_begins K a0 x1 x2 m = some q) : VV w RX9 cX9_begins 3 (some .int) rm_X9_begins false (QM w K (some (.int q.1)) q.2 0 0) K 0 [some (.ref a0), some (.int x1), some (.int x2)] [] 0 0 m := by
  unfold f_X9_begins at hf
  refine vv_iload_n 1 dX9_begins_0 rfl rfl ?_
  refine vv_i2l 2 dX9_begins_1 rfl ?_
  refine vv_lconst 3 (v := 0) dX9_begins_2 rfl (by decide) ?_
  refine vv_ldc2 6 (v := 3) dX9_begins_3 rfl w_1204 ?_
  obtain ⟨q1, g_q1, hf⟩ := bind_s hf
  refine vv_callS 9 (st := []) (As := [.long ((x1).toInt64), .long (0 : Int64), .long (3 : Int64)]) (stk2 := [.int q1]) (cl2 := 0) (sl2 := 0) dX9_begins_6 rfl lk_RX9_83 w_1206 ⟨(Nat.le_of_ble_eq_true rfl), (Nat.le_of_ble_eq_true rfl)⟩ rfl rfl ⟨(Nat.le_of_ble_eq_true rfl), (Nat.le_of_ble_eq_true rfl)⟩ rfl (Nat.le_of_ble_eq_true rfl) rfl rfl rfl rfl (c_X9_in g_q1) ?_
  refine vv_if_eq 26 12 dX9_begins_9 rfl (by decide) (fun c2 => ?_) (fun c2 => ?_)
  · rw [if_pos c2] at hf
    refine vv_bipush 28 (v := (-2)) dX9_begins_26 rfl (by decide) ?_
    obtain rfl := Option.some.inj hf
    exact vv_iret dX9_begins_28 rfl
  · rw [if_neg c2] at hf
    refine vv_iload_n 13 dX9_begins_12 rfl rfl ?_
    refine vv_i2l 14 dX9_begins_13 rfl ?_
    refine vv_ldc2 17 (v := 24) dX9_begins_14 rfl w_1208 ?_
    refine vv_ldc2 20 (v := 200) dX9_begins_17 rfl w_1209 ?_
    obtain ⟨q3, g_q3, hf⟩ := bind_s hf
    refine vv_callS 23 (st := []) (As := [.long ((x2).toInt64), .long (24 : Int64), .long (200 : Int64)]) (stk2 := [.int q3]) (cl2 := 0) (sl2 := 0) dX9_begins_20 rfl lk_RX9_83 w_1206 ⟨(Nat.le_of_ble_eq_true rfl), (Nat.le_of_ble_eq_true rfl)⟩ rfl rfl ⟨(Nat.le_of_ble_eq_true rfl), (Nat.le_of_ble_eq_true rfl)⟩ rfl (Nat.le_of_ble_eq_true rfl) rfl rfl rfl rfl (c_X9_in g_q3) ?_
    refine vv_if_ne 29 26 dX9_begins_23 rfl (by decide) (fun c4 => ?_) (fun c4 => ?_)
    · rw [if_pos c4] at hf
      refine vv_bipush 28 (v := (-2)) dX9_begins_26 rfl (by decide) ?_
      obtain rfl := Option.some.inj hf
      exact vv_iret dX9_begins_28 rfl
    · rw [if_neg c4] at hf
      refine vv_aload_n 30 dX9_begins_29 rfl rfl ?_
      refine vv_iload_n 31 dX9_begins_30 rfl rfl ?_
      refine vv_iload_n 32 dX9_begins_31 rfl rfl ?_
      obtain ⟨q5, g_q5, hf⟩ := bind_s hf
      refine vv_callV 35 (st := []) (As := [.int x1, .int x2]) (stk2 := []) (cl2 := 0) (sl2 := 0) dX9_begins_32 rfl lk_RX9_103 w_1212 w_20 rfl t_a0 ⟨(Nat.le_of_ble_eq_true rfl), (Nat.le_of_ble_eq_true rfl)⟩ rfl rfl ⟨(Nat.le_of_ble_eq_true rfl), (Nat.le_of_ble_eq_true rfl)⟩ rfl (Nat.le_of_ble_eq_true rfl) rfl rfl rfl rfl (c_X9_clears t_a0 g_q5) ?_
      refine vv_iconst 36 (v := 0) dX9_begins_35 rfl (by decide) ?_
      obtain rfl := Option.some.inj hf
      exact vv_iret dX9_begins_36 rfl

theorem c_X9_begins {w : Wo} {K : Kn} {a0 : Nat} {x1 : Int32} {x2 : Int32} {q : (Int32 × Mem)} {m : Mem} (t_a0 : K a0 = some (.inl 8)) (hf : F_X9_begins K m a0 x1 x2 = some q) : MM w K K yX9_begins cX9_begins 3 (some .int) rm_X9_begins [.ref a0, .int x1, .int x2] m (some (.int q.1)) q.2 0 0 :=
  mm_of (ini := false) (n := 0) (plainFor_of_name (by decide)) rfl (fun h => by first | rfl | cases h) (Nat.le_of_ble_eq_true rfl) rfl (v_X9_begins_0 t_a0 hf)

set_option maxHeartbeats 4000000 in
theorem v_X9_isSeries_25 {w : Wo} {K : Kn} {a0 : Nat} {x1 : Int32} {q : Int32} {m : Mem} (t_a0 : K a0 = some (.inl 8)) (hf : f_X9_isSeries_25 K m a0 x1 = some q) : VV w RX9 cX9_isSeries 2 (some .boolean) rm_X9_isSeries false (QM w K (some (.int q)) m 0 0) K 25 [none, none] [] 0 0 m := by
  unfold f_X9_isSeries_25 at hf
  refine vv_iconst 26 (v := 0) dX9_isSeries_25 rfl (by decide) ?_
  obtain rfl := Option.some.inj hf
  exact vv_zret dX9_isSeries_26 rfl (Or.inl rfl)

set_option maxHeartbeats 4000000 in
theorem v_X9_isSeries_0 {w : Wo} {K : Kn} {a0 : Nat} {x1 : Int32} {q : Int32} {m : Mem} (t_a0 : K a0 = some (.inl 8)) (hf : f_X9_isSeries K m a0 x1 = some q) : VV w RX9 cX9_isSeries 2 (some .boolean) rm_X9_isSeries false (QM w K (some (.int q)) m 0 0) K 0 [some (.ref a0), some (.int x1)] [] 0 0 m := by
  unfold f_X9_isSeries at hf
  refine vv_iload_n 1 dX9_isSeries_0 rfl rfl ?_
  refine vv_i2l 2 dX9_isSeries_1 rfl ?_
  refine vv_lconst 3 (v := 0) dX9_isSeries_2 rfl (by decide) ?_
  refine vv_ldc2 6 (v := 3) dX9_isSeries_3 rfl w_1204 ?_
  obtain ⟨q1, g_q1, hf⟩ := bind_s hf
  refine vv_callS 9 (st := []) (As := [.long ((x1).toInt64), .long (0 : Int64), .long (3 : Int64)]) (stk2 := [.int q1]) (cl2 := 0) (sl2 := 0) dX9_isSeries_6 rfl lk_RX9_83 w_1206 ⟨(Nat.le_of_ble_eq_true rfl), (Nat.le_of_ble_eq_true rfl)⟩ rfl rfl ⟨(Nat.le_of_ble_eq_true rfl), (Nat.le_of_ble_eq_true rfl)⟩ rfl (Nat.le_of_ble_eq_true rfl) rfl rfl rfl rfl (c_X9_in g_q1) ?_
  refine vv_if_eq 25 12 dX9_isSeries_9 rfl (by decide) (fun c2 => ?_) (fun c2 => ?_)
  · rw [if_pos c2] at hf
    exact VV.lle (v_X9_isSeries_25 t_a0 hf) (lle_n (lle_n lle_nil))
  · rw [if_neg c2] at hf
    refine vv_aload_n 13 dX9_isSeries_12 rfl rfl ?_
    obtain ⟨b3, g_b3, hf⟩ := bind_s hf
    have t_b3 := (ldA_spec g_b3).2
    refine gf_RX9_7 16 dX9_isSeries_13 rfl t_a0 (ldA_spec g_b3).1 ?_
    refine vv_iload_n 17 dX9_isSeries_16 rfl rfl ?_
    obtain ⟨r4, g_r4, hf⟩ := bind_s hf
    refine vv_iald 18 dX9_isSeries_17 rfl t_b3 g_r4 ?_
    refine vv_if_le 25 21 dX9_isSeries_18 rfl (by decide) (fun c5 => ?_) (fun c5 => ?_)
    · rw [if_pos c5] at hf
      exact VV.lle (v_X9_isSeries_25 t_a0 hf) (lle_n (lle_n lle_nil))
    · rw [if_neg c5] at hf
      refine vv_iconst 22 (v := 1) dX9_isSeries_21 rfl (by decide) ?_
      refine vv_goto 26 dX9_isSeries_22 (by decide) ?_
      obtain rfl := Option.some.inj hf
      exact vv_zret dX9_isSeries_26 rfl (Or.inr rfl)

theorem c_X9_isSeries {w : Wo} {K : Kn} {a0 : Nat} {x1 : Int32} {q : Int32} {m : Mem} (t_a0 : K a0 = some (.inl 8)) (hf : F_X9_isSeries K m a0 x1 = some q) : MM w K K yX9_isSeries cX9_isSeries 2 (some .boolean) rm_X9_isSeries [.ref a0, .int x1] m (some (.int q)) m 0 0 :=
  mm_of (ini := false) (n := 0) (plainFor_of_name (by decide)) rfl (fun h => by first | rfl | cases h) (Nat.le_of_ble_eq_true rfl) rfl (v_X9_isSeries_0 t_a0 hf)

set_option maxHeartbeats 4000000 in
theorem v_X9_isStamp_0 {w : Wo} {K : Kn} {x0 : Int32} {q : Int32} {m : Mem} (hf : f_X9_isStamp x0 = some q) : VV w RX9 cX9_isStamp 1 (some .boolean) rm_X9_isStamp false (QM w K (some (.int q)) m 0 0) K 0 [some (.int x0)] [] 0 0 m := by
  unfold f_X9_isStamp at hf
  refine vv_iload_n 1 dX9_isStamp_0 rfl rfl ?_
  refine vv_i2l 2 dX9_isStamp_1 rfl ?_
  refine vv_lconst 3 (v := 0) dX9_isStamp_2 rfl (by decide) ?_
  refine vv_ldc2 6 (v := 2000000000) dX9_isStamp_3 rfl w_1225 ?_
  obtain ⟨q1, g_q1, hf⟩ := bind_s hf
  refine vv_callS 9 (st := []) (As := [.long ((x0).toInt64), .long (0 : Int64), .long (2000000000 : Int64)]) (stk2 := [.int q1]) (cl2 := 0) (sl2 := 0) dX9_isStamp_6 rfl lk_RX9_83 w_1206 ⟨(Nat.le_of_ble_eq_true rfl), (Nat.le_of_ble_eq_true rfl)⟩ rfl rfl ⟨(Nat.le_of_ble_eq_true rfl), (Nat.le_of_ble_eq_true rfl)⟩ rfl (Nat.le_of_ble_eq_true rfl) rfl rfl rfl rfl (c_X9_in g_q1) ?_
  obtain ⟨h2, hf⟩ := gd_s hf
  obtain rfl := Option.some.inj hf
  exact vv_zret dX9_isStamp_9 rfl h2

theorem c_X9_isStamp {w : Wo} {K : Kn} {x0 : Int32} {q : Int32} {m : Mem} (hf : F_X9_isStamp x0 = some q) : MM w K K yX9_isStamp cX9_isStamp 1 (some .boolean) rm_X9_isStamp [.int x0] m (some (.int q)) m 0 0 :=
  mm_of (ini := false) (n := 0) (plainFor_of_name (by decide)) rfl (fun h => by first | rfl | cases h) (Nat.le_of_ble_eq_true rfl) rfl (v_X9_isStamp_0 hf)

set_option maxHeartbeats 4000000 in
theorem v_X9_isAbove_20 {w : Wo} {K : Kn} {a0 : Nat} {x1 : Int32} {x2 : Int32} {q : Int32} {m : Mem} (t_a0 : K a0 = some (.inl 8)) (hf : f_X9_isAbove_20 K m a0 x1 x2 = some q) : VV w RX9 cX9_isAbove 3 (some .boolean) rm_X9_isAbove false (QM w K (some (.int q)) m 0 0) K 20 [none, none, none] [] 0 0 m := by
  unfold f_X9_isAbove_20 at hf
  refine vv_iconst 21 (v := 1) dX9_isAbove_20 rfl (by decide) ?_
  refine vv_goto 25 dX9_isAbove_21 (by decide) ?_
  obtain rfl := Option.some.inj hf
  exact vv_zret dX9_isAbove_25 rfl (Or.inr rfl)

set_option maxHeartbeats 4000000 in
theorem v_X9_isAbove_0 {w : Wo} {K : Kn} {a0 : Nat} {x1 : Int32} {x2 : Int32} {q : Int32} {m : Mem} (t_a0 : K a0 = some (.inl 8)) (hf : f_X9_isAbove K m a0 x1 x2 = some q) : VV w RX9 cX9_isAbove 3 (some .boolean) rm_X9_isAbove false (QM w K (some (.int q)) m 0 0) K 0 [some (.ref a0), some (.int x1), some (.int x2)] [] 0 0 m := by
  unfold f_X9_isAbove at hf
  refine vv_aload_n 1 dX9_isAbove_0 rfl rfl ?_
  obtain ⟨b1, g_b1, hf⟩ := bind_s hf
  have t_b1 := (ldA_spec g_b1).2
  refine gf_RX9_13 4 dX9_isAbove_1 rfl t_a0 (ldA_spec g_b1).1 ?_
  refine vv_iload_n 5 dX9_isAbove_4 rfl rfl ?_
  obtain ⟨r2, g_r2, hf⟩ := bind_s hf
  refine vv_iald 6 dX9_isAbove_5 rfl t_b1 g_r2 ?_
  refine vv_iconst 7 (v := (-1)) dX9_isAbove_6 rfl (by decide) ?_
  refine vv_icmp_eq 20 10 dX9_isAbove_7 rfl (by decide) (fun c3 => ?_) (fun c3 => ?_)
  · rw [if_pos c3] at hf
    exact VV.lle (v_X9_isAbove_20 t_a0 hf) (lle_n (lle_n (lle_n lle_nil)))
  · rw [if_neg c3] at hf
    refine vv_iload_n 11 dX9_isAbove_10 rfl rfl ?_
    refine vv_aload_n 12 dX9_isAbove_11 rfl rfl ?_
    obtain ⟨b4, g_b4, hf⟩ := bind_s hf
    have t_b4 := (ldA_spec g_b4).2
    refine gf_RX9_13 15 dX9_isAbove_12 rfl t_a0 (ldA_spec g_b4).1 ?_
    refine vv_iload_n 16 dX9_isAbove_15 rfl rfl ?_
    obtain ⟨r5, g_r5, hf⟩ := bind_s hf
    refine vv_iald 17 dX9_isAbove_16 rfl t_b4 g_r5 ?_
    refine vv_icmp_le 24 20 dX9_isAbove_17 rfl (by decide) (fun c6 => ?_) (fun c6 => ?_)
    · rw [if_pos c6] at hf
      refine vv_iconst 25 (v := 0) dX9_isAbove_24 rfl (by decide) ?_
      obtain rfl := Option.some.inj hf
      exact vv_zret dX9_isAbove_25 rfl (Or.inl rfl)
    · rw [if_neg c6] at hf
      exact VV.lle (v_X9_isAbove_20 t_a0 hf) (lle_n (lle_n (lle_n lle_nil)))

theorem c_X9_isAbove {w : Wo} {K : Kn} {a0 : Nat} {x1 : Int32} {x2 : Int32} {q : Int32} {m : Mem} (t_a0 : K a0 = some (.inl 8)) (hf : F_X9_isAbove K m a0 x1 x2 = some q) : MM w K K yX9_isAbove cX9_isAbove 3 (some .boolean) rm_X9_isAbove [.ref a0, .int x1, .int x2] m (some (.int q)) m 0 0 :=
  mm_of (ini := false) (n := 0) (plainFor_of_name (by decide)) rfl (fun h => by first | rfl | cases h) (Nat.le_of_ble_eq_true rfl) rfl (v_X9_isAbove_0 t_a0 hf)

set_option maxHeartbeats 4000000 in
theorem v_X9_faults_0 {w : Wo} {K : Kn} {a0 : Nat} {x1 : Int32} {x2 : Int32} {q : Mem} (t_a0 : K a0 = some (.inl 8)) {m : Mem} (hf : f_X9_faults K a0 x1 x2 m = some q) : VV w RX9 cX9_faults 3 none rm_X9_faults false (QM w K none q 0 0) K 0 [some (.ref a0), some (.int x1), some (.int x2)] [] 0 0 m := by
  unfold f_X9_faults at hf
  refine vv_aload_n 1 dX9_faults_0 rfl rfl ?_
  refine vv_iload_n 2 dX9_faults_1 rfl rfl ?_
  obtain ⟨m1, e_m1, hf⟩ := bd_s hf
  refine pf_RX9_203 5 dX9_faults_2 rfl t_a0 e_m1 ?_
  refine vv_aload_n 6 dX9_faults_5 rfl rfl ?_
  refine vv_iload_n 7 dX9_faults_6 rfl rfl ?_
  obtain ⟨m2, e_m2, hf⟩ := bd_s hf
  refine pf_RX9_206 10 dX9_faults_7 rfl t_a0 e_m2 ?_
  obtain rfl := Option.some.inj hf
  exact vv_vret dX9_faults_10 rfl

theorem c_X9_faults {w : Wo} {K : Kn} {a0 : Nat} {x1 : Int32} {x2 : Int32} {q : Mem} {m : Mem} (t_a0 : K a0 = some (.inl 8)) (hf : F_X9_faults K m a0 x1 x2 = some q) : MM w K K yX9_faults cX9_faults 3 none rm_X9_faults [.ref a0, .int x1, .int x2] m none q 0 0 :=
  mm_of (ini := false) (n := 0) (plainFor_of_name (by decide)) rfl (fun h => by first | rfl | cases h) (Nat.le_of_ble_eq_true rfl) rfl (v_X9_faults_0 t_a0 hf)

set_option maxHeartbeats 4000000 in
theorem v_X9_byteAt_0 {w : Wo} {K : Kn} {a0 : Nat} {x1 : Int32} {x2 : Int32} {q : Int32} {m : Mem} (t_a0 : K a0 = some (.inl 8)) (hf : f_X9_byteAt K m a0 x1 x2 = some q) : VV w RX9 cX9_byteAt 3 (some .int) rm_X9_byteAt false (QM w K (some (.int q)) m 0 0) K 0 [some (.ref a0), some (.int x1), some (.int x2)] [] 0 0 m := by
  unfold f_X9_byteAt at hf
  refine vv_aload_n 1 dX9_byteAt_0 rfl rfl ?_
  obtain ⟨b1, g_b1, hf⟩ := bind_s hf
  have t_b1 := (ldA_spec g_b1).2
  refine gf_RX9_19 4 dX9_byteAt_1 rfl t_a0 (ldA_spec g_b1).1 ?_
  refine vv_sipush 7 (v := 200) dX9_byteAt_4 rfl (by decide) ?_
  refine vv_iload_n 8 dX9_byteAt_7 rfl rfl ?_
  refine vv_imul 9 dX9_byteAt_8 rfl ?_
  refine vv_iload_n 10 dX9_byteAt_9 rfl rfl ?_
  refine vv_iadd 11 dX9_byteAt_10 rfl ?_
  obtain ⟨r2, g_r2, hf⟩ := bind_s hf
  refine vv_iald 12 dX9_byteAt_11 rfl t_b1 g_r2 ?_
  obtain rfl := Option.some.inj hf
  exact vv_iret dX9_byteAt_12 rfl

theorem c_X9_byteAt {w : Wo} {K : Kn} {a0 : Nat} {x1 : Int32} {x2 : Int32} {q : Int32} {m : Mem} (t_a0 : K a0 = some (.inl 8)) (hf : F_X9_byteAt K m a0 x1 x2 = some q) : MM w K K yX9_byteAt cX9_byteAt 3 (some .int) rm_X9_byteAt [.ref a0, .int x1, .int x2] m (some (.int q)) m 0 0 :=
  mm_of (ini := false) (n := 0) (plainFor_of_name (by decide)) rfl (fun h => by first | rfl | cases h) (Nat.le_of_ble_eq_true rfl) rfl (v_X9_byteAt_0 t_a0 hf)

set_option maxHeartbeats 4000000 in
theorem v_X9_checkOf_6B {w : Wo} {K : Kn} {a0 : Nat} {x1 : Int32} {x2 : Int32} {q : Int32} {m : Mem} (t_a0 : K a0 = some (.inl 8)) (k6 : Int32 → Int32 → Option Int32) (hk6 : ∀ (x3 : Int32) (x4 : Int32), k6 x3 x4 = some q → VV w RX9 cX9_checkOf 5 (some .int) rm_X9_checkOf false (QM w K (some (.int q)) m 0 0) K 6 [some (.ref a0), some (.int x1), some (.int x2), some (.int x3), some (.int x4)] [] 0 0 m) {x3 : Int32} {x4 : Int32} (hf : f_X9_checkOf_6B K m a0 x1 x2 k6 x3 x4 = some q) : VV w RX9 cX9_checkOf 5 (some .int) rm_X9_checkOf false (QM w K (some (.int q)) m 0 0) K 6 [some (.ref a0), some (.int x1), some (.int x2), some (.int x3), some (.int x4)] [] 0 0 m := by
  unfold f_X9_checkOf_6B at hf
  refine vv_iload 8 dX9_checkOf_6 rfl rfl ?_
  refine vv_iload_n 9 dX9_checkOf_8 rfl rfl ?_
  refine vv_icmp_ge 35 12 dX9_checkOf_9 rfl (by decide) (fun c1 => ?_) (fun c1 => ?_)
  · rw [if_pos c1] at hf
    refine vv_iload_n 36 dX9_checkOf_35 rfl rfl ?_
    obtain rfl := Option.some.inj hf
    exact vv_iret dX9_checkOf_36 rfl
  · rw [if_neg c1] at hf
    refine vv_bipush 14 (v := 31) dX9_checkOf_12 rfl (by decide) ?_
    refine vv_iload_n 15 dX9_checkOf_14 rfl rfl ?_
    refine vv_imul 16 dX9_checkOf_15 rfl ?_
    refine vv_aload_n 17 dX9_checkOf_16 rfl rfl ?_
    refine vv_iload_n 18 dX9_checkOf_17 rfl rfl ?_
    refine vv_iload 20 dX9_checkOf_18 rfl rfl ?_
    obtain ⟨q2, g_q2, hf⟩ := bind_s hf
    refine vv_callV 23 (st := [.int ((31 : Int32) * x3)]) (As := [.int x1, .int x4]) (stk2 := [.int q2, .int ((31 : Int32) * x3)]) (cl2 := 0) (sl2 := 0) dX9_checkOf_20 rfl lk_RX9_107 w_1248 w_27 rfl t_a0 ⟨(Nat.le_of_ble_eq_true rfl), (Nat.le_of_ble_eq_true rfl)⟩ rfl rfl ⟨(Nat.le_of_ble_eq_true rfl), (Nat.le_of_ble_eq_true rfl)⟩ rfl (Nat.le_of_ble_eq_true rfl) rfl rfl rfl rfl (c_X9_byteAt t_a0 g_q2) ?_
    refine vv_iadd 24 dX9_checkOf_23 rfl ?_
    refine vv_sipush 27 (v := 251) dX9_checkOf_24 rfl (by decide) ?_
    refine vv_irem 28 dX9_checkOf_27 rfl (by decide) ?_
    obtain ⟨z3, e_z3, hf⟩ := bd_s hf
    refine vv_istore_nE (q := 29) (v := z3) (L' := [some (.ref a0), some (.int x1), some (.int x2), some (.int z3), some (.int x4)]) e_z3 dX9_checkOf_28 rfl (Nat.le_of_ble_eq_true rfl) rfl ?_
    obtain ⟨z4, e_z4, hf⟩ := bd_s hf
    refine vv_iincE (q := 32) (v := z4) (c := 1) (L' := [some (.ref a0), some (.int x1), some (.int x2), some (.int z3), some (.int z4)]) e_z4 dX9_checkOf_29 rfl rfl (by decide) (Nat.le_of_ble_eq_true rfl) rfl ?_
    refine vv_goto 6 dX9_checkOf_32 (by decide) ?_
    exact hk6 _ _ hf

theorem v_X9_checkOf_6 {w : Wo} {K : Kn} {a0 : Nat} {x1 : Int32} {x2 : Int32} {q : Int32} {m : Mem} (t_a0 : K a0 = some (.inl 8)) : ∀ (n : Nat) (x3 : Int32) (x4 : Int32), f_X9_checkOf_6 K m a0 x1 x2 n x3 x4 = some q → VV w RX9 cX9_checkOf 5 (some .int) rm_X9_checkOf false (QM w K (some (.int q)) m 0 0) K 6 [some (.ref a0), some (.int x1), some (.int x2), some (.int x3), some (.int x4)] [] 0 0 m := by
  intro n
  induction n with
  | zero => intro x3 x4 hf; cases hf
  | succ n ih => intro x3 x4 hf; exact v_X9_checkOf_6B (a0 := a0) (x1 := x1) (x2 := x2) t_a0 (f_X9_checkOf_6 K m a0 x1 x2 n) ih hf

set_option maxHeartbeats 4000000 in
theorem v_X9_checkOf_0 {w : Wo} {K : Kn} {a0 : Nat} {x1 : Int32} {x2 : Int32} {q : Int32} {m : Mem} (t_a0 : K a0 = some (.inl 8)) (hf : f_X9_checkOf K m a0 x1 x2 = some q) : VV w RX9 cX9_checkOf 5 (some .int) rm_X9_checkOf false (QM w K (some (.int q)) m 0 0) K 0 [some (.ref a0), some (.int x1), some (.int x2), none, none] [] 0 0 m := by
  unfold f_X9_checkOf at hf
  refine vv_bipush 2 (v := 7) dX9_checkOf_0 rfl (by decide) ?_
  refine vv_istore_n 3 (L' := [some (.ref a0), some (.int x1), some (.int x2), some (.int (7 : Int32)), none]) dX9_checkOf_2 rfl (Nat.le_of_ble_eq_true rfl) rfl ?_
  refine vv_iconst 4 (v := 0) dX9_checkOf_3 rfl (by decide) ?_
  refine vv_istore 6 (L' := [some (.ref a0), some (.int x1), some (.int x2), some (.int (7 : Int32)), some (.int (0 : Int32))]) dX9_checkOf_4 rfl (Nat.le_of_ble_eq_true rfl) rfl ?_
  exact v_X9_checkOf_6 t_a0 FU _ _ hf

theorem c_X9_checkOf {w : Wo} {K : Kn} {a0 : Nat} {x1 : Int32} {x2 : Int32} {q : Int32} {m : Mem} (t_a0 : K a0 = some (.inl 8)) (hf : F_X9_checkOf K m a0 x1 x2 = some q) : MM w K K yX9_checkOf cX9_checkOf 5 (some .int) rm_X9_checkOf [.ref a0, .int x1, .int x2] m (some (.int q)) m 0 0 :=
  mm_of (ini := false) (n := 2) (plainFor_of_name (by decide)) rfl (fun h => by first | rfl | cases h) (Nat.le_of_ble_eq_true rfl) rfl (v_X9_checkOf_0 t_a0 hf)

set_option maxHeartbeats 4000000 in
theorem v_X9_headStamp_5B {w : Wo} {K : Kn} {a0 : Nat} {x1 : Int32} {q : Int64} {m : Mem} (t_a0 : K a0 = some (.inl 8)) (k5 : Int64 → Int32 → Option Int64) (hk5 : ∀ (x2 : Int64) (x4 : Int32), k5 x2 x4 = some q → VV w RX9 cX9_headStamp 5 (some .long) rm_X9_headStamp false (QM w K (some (.long q)) m 0 0) K 5 [some (.ref a0), some (.int x1), some (.long x2), none, some (.int x4)] [] 0 0 m) {x2 : Int64} {x4 : Int32} (hf : f_X9_headStamp_5B K m a0 x1 k5 x2 x4 = some q) : VV w RX9 cX9_headStamp 5 (some .long) rm_X9_headStamp false (QM w K (some (.long q)) m 0 0) K 5 [some (.ref a0), some (.int x1), some (.long x2), none, some (.int x4)] [] 0 0 m := by
  unfold f_X9_headStamp_5B at hf
  refine vv_iload 7 dX9_headStamp_5 rfl rfl ?_
  refine vv_iconst 8 (v := 4) dX9_headStamp_7 rfl (by decide) ?_
  refine vv_icmp_ge 31 11 dX9_headStamp_8 rfl (by decide) (fun c1 => ?_) (fun c1 => ?_)
  · rw [if_pos c1] at hf
    refine vv_lload_n 32 dX9_headStamp_31 rfl rfl ?_
    obtain rfl := Option.some.inj hf
    exact vv_lret dX9_headStamp_32 rfl
  · rw [if_neg c1] at hf
    refine vv_lload_n 12 dX9_headStamp_11 rfl rfl ?_
    refine vv_bipush 14 (v := 8) dX9_headStamp_12 rfl (by decide) ?_
    refine vv_lshl 15 dX9_headStamp_14 rfl ?_
    refine vv_aload_n 16 dX9_headStamp_15 rfl rfl ?_
    refine vv_iload_n 17 dX9_headStamp_16 rfl rfl ?_
    refine vv_iload 19 dX9_headStamp_17 rfl rfl ?_
    obtain ⟨q2, g_q2, hf⟩ := bind_s hf
    refine vv_callV 22 (st := [.long (lshl x2 (8 : Int32))]) (As := [.int x1, .int x4]) (stk2 := [.int q2, .long (lshl x2 (8 : Int32))]) (cl2 := 0) (sl2 := 0) dX9_headStamp_19 rfl lk_RX9_107 w_1248 w_27 rfl t_a0 ⟨(Nat.le_of_ble_eq_true rfl), (Nat.le_of_ble_eq_true rfl)⟩ rfl rfl ⟨(Nat.le_of_ble_eq_true rfl), (Nat.le_of_ble_eq_true rfl)⟩ rfl (Nat.le_of_ble_eq_true rfl) rfl rfl rfl rfl (c_X9_byteAt t_a0 g_q2) ?_
    refine vv_i2l 23 dX9_headStamp_22 rfl ?_
    refine vv_lor 24 dX9_headStamp_23 rfl ?_
    obtain ⟨z3, e_z3, hf⟩ := bd_s hf
    refine vv_lstore_nE (q := 25) (v := z3) (L' := [some (.ref a0), some (.int x1), some (.long z3), none, some (.int x4)]) e_z3 dX9_headStamp_24 rfl (Nat.le_of_ble_eq_true rfl) rfl ?_
    obtain ⟨z4, e_z4, hf⟩ := bd_s hf
    refine vv_iincE (q := 28) (v := z4) (c := 1) (L' := [some (.ref a0), some (.int x1), some (.long z3), none, some (.int z4)]) e_z4 dX9_headStamp_25 rfl rfl (by decide) (Nat.le_of_ble_eq_true rfl) rfl ?_
    refine vv_goto 5 dX9_headStamp_28 (by decide) ?_
    exact hk5 _ _ hf

theorem v_X9_headStamp_5 {w : Wo} {K : Kn} {a0 : Nat} {x1 : Int32} {q : Int64} {m : Mem} (t_a0 : K a0 = some (.inl 8)) : ∀ (n : Nat) (x2 : Int64) (x4 : Int32), f_X9_headStamp_5 K m a0 x1 n x2 x4 = some q → VV w RX9 cX9_headStamp 5 (some .long) rm_X9_headStamp false (QM w K (some (.long q)) m 0 0) K 5 [some (.ref a0), some (.int x1), some (.long x2), none, some (.int x4)] [] 0 0 m := by
  intro n
  induction n with
  | zero => intro x2 x4 hf; cases hf
  | succ n ih => intro x2 x4 hf; exact v_X9_headStamp_5B (a0 := a0) (x1 := x1) t_a0 (f_X9_headStamp_5 K m a0 x1 n) ih hf

set_option maxHeartbeats 4000000 in
theorem v_X9_headStamp_0 {w : Wo} {K : Kn} {a0 : Nat} {x1 : Int32} {q : Int64} {m : Mem} (t_a0 : K a0 = some (.inl 8)) (hf : f_X9_headStamp K m a0 x1 = some q) : VV w RX9 cX9_headStamp 5 (some .long) rm_X9_headStamp false (QM w K (some (.long q)) m 0 0) K 0 [some (.ref a0), some (.int x1), none, none, none] [] 0 0 m := by
  unfold f_X9_headStamp at hf
  refine vv_lconst 1 (v := 0) dX9_headStamp_0 rfl (by decide) ?_
  refine vv_lstore_n 2 (L' := [some (.ref a0), some (.int x1), some (.long (0 : Int64)), none, none]) dX9_headStamp_1 rfl (Nat.le_of_ble_eq_true rfl) rfl ?_
  refine vv_iconst 3 (v := 0) dX9_headStamp_2 rfl (by decide) ?_
  refine vv_istore 5 (L' := [some (.ref a0), some (.int x1), some (.long (0 : Int64)), none, some (.int (0 : Int32))]) dX9_headStamp_3 rfl (Nat.le_of_ble_eq_true rfl) rfl ?_
  exact v_X9_headStamp_5 t_a0 FU _ _ hf

theorem c_X9_headStamp {w : Wo} {K : Kn} {a0 : Nat} {x1 : Int32} {q : Int64} {m : Mem} (t_a0 : K a0 = some (.inl 8)) (hf : F_X9_headStamp K m a0 x1 = some q) : MM w K K yX9_headStamp cX9_headStamp 5 (some .long) rm_X9_headStamp [.ref a0, .int x1] m (some (.long q)) m 0 0 :=
  mm_of (ini := false) (n := 3) (plainFor_of_name (by decide)) rfl (fun h => by first | rfl | cases h) (Nat.le_of_ble_eq_true rfl) rfl (v_X9_headStamp_0 t_a0 hf)

set_option maxHeartbeats 4000000 in
theorem v_X9_headBits_5B {w : Wo} {K : Kn} {a0 : Nat} {x1 : Int32} {q : Int64} {m : Mem} (t_a0 : K a0 = some (.inl 8)) (k5 : Int64 → Int32 → Option Int64) (hk5 : ∀ (x2 : Int64) (x4 : Int32), k5 x2 x4 = some q → VV w RX9 cX9_headBits 5 (some .long) rm_X9_headBits false (QM w K (some (.long q)) m 0 0) K 5 [some (.ref a0), some (.int x1), some (.long x2), none, some (.int x4)] [] 0 0 m) {x2 : Int64} {x4 : Int32} (hf : f_X9_headBits_5B K m a0 x1 k5 x2 x4 = some q) : VV w RX9 cX9_headBits 5 (some .long) rm_X9_headBits false (QM w K (some (.long q)) m 0 0) K 5 [some (.ref a0), some (.int x1), some (.long x2), none, some (.int x4)] [] 0 0 m := by
  unfold f_X9_headBits_5B at hf
  refine vv_iload 7 dX9_headBits_5 rfl rfl ?_
  refine vv_bipush 9 (v := 12) dX9_headBits_7 rfl (by decide) ?_
  refine vv_icmp_ge 32 12 dX9_headBits_9 rfl (by decide) (fun c1 => ?_) (fun c1 => ?_)
  · rw [if_pos c1] at hf
    refine vv_lload_n 33 dX9_headBits_32 rfl rfl ?_
    obtain rfl := Option.some.inj hf
    exact vv_lret dX9_headBits_33 rfl
  · rw [if_neg c1] at hf
    refine vv_lload_n 13 dX9_headBits_12 rfl rfl ?_
    refine vv_bipush 15 (v := 8) dX9_headBits_13 rfl (by decide) ?_
    refine vv_lshl 16 dX9_headBits_15 rfl ?_
    refine vv_aload_n 17 dX9_headBits_16 rfl rfl ?_
    refine vv_iload_n 18 dX9_headBits_17 rfl rfl ?_
    refine vv_iload 20 dX9_headBits_18 rfl rfl ?_
    obtain ⟨q2, g_q2, hf⟩ := bind_s hf
    refine vv_callV 23 (st := [.long (lshl x2 (8 : Int32))]) (As := [.int x1, .int x4]) (stk2 := [.int q2, .long (lshl x2 (8 : Int32))]) (cl2 := 0) (sl2 := 0) dX9_headBits_20 rfl lk_RX9_107 w_1248 w_27 rfl t_a0 ⟨(Nat.le_of_ble_eq_true rfl), (Nat.le_of_ble_eq_true rfl)⟩ rfl rfl ⟨(Nat.le_of_ble_eq_true rfl), (Nat.le_of_ble_eq_true rfl)⟩ rfl (Nat.le_of_ble_eq_true rfl) rfl rfl rfl rfl (c_X9_byteAt t_a0 g_q2) ?_
    refine vv_i2l 24 dX9_headBits_23 rfl ?_
    refine vv_lor 25 dX9_headBits_24 rfl ?_
    obtain ⟨z3, e_z3, hf⟩ := bd_s hf
    refine vv_lstore_nE (q := 26) (v := z3) (L' := [some (.ref a0), some (.int x1), some (.long z3), none, some (.int x4)]) e_z3 dX9_headBits_25 rfl (Nat.le_of_ble_eq_true rfl) rfl ?_
    obtain ⟨z4, e_z4, hf⟩ := bd_s hf
    refine vv_iincE (q := 29) (v := z4) (c := 1) (L' := [some (.ref a0), some (.int x1), some (.long z3), none, some (.int z4)]) e_z4 dX9_headBits_26 rfl rfl (by decide) (Nat.le_of_ble_eq_true rfl) rfl ?_
    refine vv_goto 5 dX9_headBits_29 (by decide) ?_
    exact hk5 _ _ hf

theorem v_X9_headBits_5 {w : Wo} {K : Kn} {a0 : Nat} {x1 : Int32} {q : Int64} {m : Mem} (t_a0 : K a0 = some (.inl 8)) : ∀ (n : Nat) (x2 : Int64) (x4 : Int32), f_X9_headBits_5 K m a0 x1 n x2 x4 = some q → VV w RX9 cX9_headBits 5 (some .long) rm_X9_headBits false (QM w K (some (.long q)) m 0 0) K 5 [some (.ref a0), some (.int x1), some (.long x2), none, some (.int x4)] [] 0 0 m := by
  intro n
  induction n with
  | zero => intro x2 x4 hf; cases hf
  | succ n ih => intro x2 x4 hf; exact v_X9_headBits_5B (a0 := a0) (x1 := x1) t_a0 (f_X9_headBits_5 K m a0 x1 n) ih hf

set_option maxHeartbeats 4000000 in
theorem v_X9_headBits_0 {w : Wo} {K : Kn} {a0 : Nat} {x1 : Int32} {q : Int64} {m : Mem} (t_a0 : K a0 = some (.inl 8)) (hf : f_X9_headBits K m a0 x1 = some q) : VV w RX9 cX9_headBits 5 (some .long) rm_X9_headBits false (QM w K (some (.long q)) m 0 0) K 0 [some (.ref a0), some (.int x1), none, none, none] [] 0 0 m := by
  unfold f_X9_headBits at hf
  refine vv_lconst 1 (v := 0) dX9_headBits_0 rfl (by decide) ?_
  refine vv_lstore_n 2 (L' := [some (.ref a0), some (.int x1), some (.long (0 : Int64)), none, none]) dX9_headBits_1 rfl (Nat.le_of_ble_eq_true rfl) rfl ?_
  refine vv_iconst 3 (v := 4) dX9_headBits_2 rfl (by decide) ?_
  refine vv_istore 5 (L' := [some (.ref a0), some (.int x1), some (.long (0 : Int64)), none, some (.int (4 : Int32))]) dX9_headBits_3 rfl (Nat.le_of_ble_eq_true rfl) rfl ?_
  exact v_X9_headBits_5 t_a0 FU _ _ hf

theorem c_X9_headBits {w : Wo} {K : Kn} {a0 : Nat} {x1 : Int32} {q : Int64} {m : Mem} (t_a0 : K a0 = some (.inl 8)) (hf : F_X9_headBits K m a0 x1 = some q) : MM w K K yX9_headBits cX9_headBits 5 (some .long) rm_X9_headBits [.ref a0, .int x1] m (some (.long q)) m 0 0 :=
  mm_of (ini := false) (n := 3) (plainFor_of_name (by decide)) rfl (fun h => by first | rfl | cases h) (Nat.le_of_ble_eq_true rfl) rfl (v_X9_headBits_0 t_a0 hf)

set_option maxHeartbeats 4000000 in
theorem v_X9_heads_0 {w : Wo} {K : Kn} {a0 : Nat} {x1 : Int64} {x3 : Int64} {q : Mem} (t_a0 : K a0 = some (.inl 8)) {m : Mem} (hf : f_X9_heads K a0 x1 x3 m = some q) : VV w RX9 cX9_heads 5 none rm_X9_heads false (QM w K none q 0 0) K 0 [some (.ref a0), some (.long x1), none, some (.long x3), none] [] 0 0 m := by
  unfold f_X9_heads at hf
  refine vv_aload_n 1 dX9_heads_0 rfl rfl ?_
  refine vv_lload_n 2 dX9_heads_1 rfl rfl ?_
  obtain ⟨m1, e_m1, hf⟩ := bd_s hf
  refine pf_RX9_149 5 dX9_heads_2 rfl t_a0 e_m1 ?_
  refine vv_aload_n 6 dX9_heads_5 rfl rfl ?_
  refine vv_lconst 7 (v := 0) dX9_heads_6 rfl (by decide) ?_
  obtain ⟨m2, e_m2, hf⟩ := bd_s hf
  refine pf_RX9_153 10 dX9_heads_7 rfl t_a0 e_m2 ?_
  refine vv_aload_n 11 dX9_heads_10 rfl rfl ?_
  refine vv_lload_n 12 dX9_heads_11 rfl rfl ?_
  obtain ⟨m3, e_m3, hf⟩ := bd_s hf
  refine pf_RX9_159 15 dX9_heads_12 rfl t_a0 e_m3 ?_
  refine vv_aload_n 16 dX9_heads_15 rfl rfl ?_
  refine vv_iconst 17 (v := 0) dX9_heads_16 rfl (by decide) ?_
  obtain ⟨m4, e_m4, hf⟩ := bd_s hf
  refine pf_RX9_130 20 dX9_heads_17 rfl t_a0 (by decide) e_m4 ?_
  refine vv_aload_n 21 dX9_heads_20 rfl rfl ?_
  refine vv_iconst 22 (v := 0) dX9_heads_21 rfl (by decide) ?_
  obtain ⟨m5, e_m5, hf⟩ := bd_s hf
  refine pf_RX9_134 25 dX9_heads_22 rfl t_a0 e_m5 ?_
  refine vv_aload_n 26 dX9_heads_25 rfl rfl ?_
  refine vv_iconst 27 (v := 0) dX9_heads_26 rfl (by decide) ?_
  obtain ⟨m6, e_m6, hf⟩ := bd_s hf
  refine pf_RX9_138 30 dX9_heads_27 rfl t_a0 e_m6 ?_
  refine vv_aload_n 31 dX9_heads_30 rfl rfl ?_
  refine vv_iconst 32 (v := 0) dX9_heads_31 rfl (by decide) ?_
  obtain ⟨m7, e_m7, hf⟩ := bd_s hf
  refine pf_RX9_175 35 dX9_heads_32 rfl t_a0 e_m7 ?_
  obtain rfl := Option.some.inj hf
  exact vv_vret dX9_heads_35 rfl

theorem c_X9_heads {w : Wo} {K : Kn} {a0 : Nat} {x1 : Int64} {x3 : Int64} {q : Mem} {m : Mem} (t_a0 : K a0 = some (.inl 8)) (hf : F_X9_heads K m a0 x1 x3 = some q) : MM w K K yX9_heads cX9_heads 5 none rm_X9_heads [.ref a0, .long x1, .long x3] m none q 0 0 :=
  mm_of (ini := false) (n := 0) (plainFor_of_name (by decide)) rfl (fun h => by first | rfl | cases h) (Nat.le_of_ble_eq_true rfl) rfl (v_X9_heads_0 t_a0 hf)

set_option maxHeartbeats 4000000 in
theorem v_X9_keepsOne_0 {w : Wo} {K : Kn} {a0 : Nat} {x1 : Int32} {q : Mem} (t_a0 : K a0 = some (.inl 8)) {m : Mem} (hf : f_X9_keepsOne K a0 x1 m = some q) : VV w RX9 cX9_keepsOne 2 none rm_X9_keepsOne false (QM w K none q 0 0) K 0 [some (.ref a0), some (.int x1)] [] 0 0 m := by
  unfold f_X9_keepsOne at hf
  refine vv_aload_n 1 dX9_keepsOne_0 rfl rfl ?_
  obtain ⟨b1, g_b1, hf⟩ := bind_s hf
  have t_b1 := (ldA_spec g_b1).2
  refine gf_RX9_51 4 dX9_keepsOne_1 rfl t_a0 (ldA_spec g_b1).1 ?_
  refine vv_aload_n 5 dX9_keepsOne_4 rfl rfl ?_
  refine gf_RX9_223 8 dX9_keepsOne_5 rfl t_a0 ?_
  refine vv_aload_n 9 dX9_keepsOne_8 rfl rfl ?_
  refine gf_RX9_149 12 dX9_keepsOne_9 rfl t_a0 ?_
  obtain ⟨m2, g_m2, hf⟩ := bind_s hf
  refine vv_last 13 dX9_keepsOne_12 rfl t_b1 g_m2 ?_
  refine vv_aload_n 14 dX9_keepsOne_13 rfl rfl ?_
  obtain ⟨b3, g_b3, hf⟩ := bind_s hf
  have t_b3 := (ldA_spec g_b3).2
  refine gf_RX9_54 17 dX9_keepsOne_14 rfl t_a0 (ldA_spec g_b3).1 ?_
  refine vv_aload_n 18 dX9_keepsOne_17 rfl rfl ?_
  refine gf_RX9_223 21 dX9_keepsOne_18 rfl t_a0 ?_
  refine vv_aload_n 22 dX9_keepsOne_21 rfl rfl ?_
  refine gf_RX9_159 25 dX9_keepsOne_22 rfl t_a0 ?_
  obtain ⟨m4, g_m4, hf⟩ := bind_s hf
  refine vv_last 26 dX9_keepsOne_25 rfl t_b3 g_m4 ?_
  refine vv_aload_n 27 dX9_keepsOne_26 rfl rfl ?_
  obtain ⟨b5, g_b5, hf⟩ := bind_s hf
  have t_b5 := (ldA_spec g_b5).2
  refine gf_RX9_57 30 dX9_keepsOne_27 rfl t_a0 (ldA_spec g_b5).1 ?_
  refine vv_aload_n 31 dX9_keepsOne_30 rfl rfl ?_
  refine gf_RX9_223 34 dX9_keepsOne_31 rfl t_a0 ?_
  refine vv_aload_n 35 dX9_keepsOne_34 rfl rfl ?_
  refine gf_RX9_175 38 dX9_keepsOne_35 rfl t_a0 ?_
  refine vv_iload_n 39 dX9_keepsOne_38 rfl rfl ?_
  refine vv_isub 40 dX9_keepsOne_39 rfl ?_
  obtain ⟨m6, g_m6, hf⟩ := bind_s hf
  refine vv_iast 41 dX9_keepsOne_40 rfl t_b5 g_m6 ?_
  refine vv_aload_n 42 dX9_keepsOne_41 rfl rfl ?_
  refine vv_dup 43 dX9_keepsOne_42 rfl rfl ?_
  refine gf_RX9_223 46 dX9_keepsOne_43 rfl t_a0 ?_
  refine vv_iconst 47 (v := 1) dX9_keepsOne_46 rfl (by decide) ?_
  refine vv_iadd 48 dX9_keepsOne_47 rfl ?_
  obtain ⟨m7, e_m7, hf⟩ := bd_s hf
  refine pf_RX9_223 51 dX9_keepsOne_48 rfl t_a0 e_m7 ?_
  obtain rfl := Option.some.inj hf
  exact vv_vret dX9_keepsOne_51 rfl

theorem c_X9_keepsOne {w : Wo} {K : Kn} {a0 : Nat} {x1 : Int32} {q : Mem} {m : Mem} (t_a0 : K a0 = some (.inl 8)) (hf : F_X9_keepsOne K m a0 x1 = some q) : MM w K K yX9_keepsOne cX9_keepsOne 2 none rm_X9_keepsOne [.ref a0, .int x1] m none q 0 0 :=
  mm_of (ini := false) (n := 0) (plainFor_of_name (by decide)) rfl (fun h => by first | rfl | cases h) (Nat.le_of_ble_eq_true rfl) rfl (v_X9_keepsOne_0 t_a0 hf)

set_option maxHeartbeats 4000000 in
theorem v_X9_bitAt_0 {w : Wo} {K : Kn} {a0 : Nat} {x1 : Int32} {x2 : Int32} {q : Int32} {m : Mem} (t_a0 : K a0 = some (.inl 8)) (hf : f_X9_bitAt K m a0 x1 x2 = some q) : VV w RX9 cX9_bitAt 3 (some .int) rm_X9_bitAt false (QM w K (some (.int q)) m 0 0) K 0 [some (.ref a0), some (.int x1), some (.int x2)] [] 0 0 m := by
  unfold f_X9_bitAt at hf
  refine vv_aload_n 1 dX9_bitAt_0 rfl rfl ?_
  refine vv_iload_n 2 dX9_bitAt_1 rfl rfl ?_
  refine vv_bipush 4 (v := 14) dX9_bitAt_2 rfl (by decide) ?_
  refine vv_iload_n 5 dX9_bitAt_4 rfl rfl ?_
  refine vv_bipush 7 (v := 8) dX9_bitAt_5 rfl (by decide) ?_
  refine vv_idiv 8 dX9_bitAt_7 rfl (by decide) ?_
  refine vv_iadd 9 dX9_bitAt_8 rfl ?_
  obtain ⟨q1, g_q1, hf⟩ := bind_s hf
  refine vv_callV 12 (st := []) (As := [.int x1, .int ((14 : Int32) + (x2 / (8 : Int32)))]) (stk2 := [.int q1]) (cl2 := 0) (sl2 := 0) dX9_bitAt_9 rfl lk_RX9_107 w_1248 w_27 rfl t_a0 ⟨(Nat.le_of_ble_eq_true rfl), (Nat.le_of_ble_eq_true rfl)⟩ rfl rfl ⟨(Nat.le_of_ble_eq_true rfl), (Nat.le_of_ble_eq_true rfl)⟩ rfl (Nat.le_of_ble_eq_true rfl) rfl rfl rfl rfl (c_X9_byteAt t_a0 g_q1) ?_
  refine vv_bipush 14 (v := 7) dX9_bitAt_12 rfl (by decide) ?_
  refine vv_iload_n 15 dX9_bitAt_14 rfl rfl ?_
  refine vv_bipush 17 (v := 8) dX9_bitAt_15 rfl (by decide) ?_
  refine vv_irem 18 dX9_bitAt_17 rfl (by decide) ?_
  refine vv_isub 19 dX9_bitAt_18 rfl ?_
  refine vv_ishr 20 dX9_bitAt_19 rfl ?_
  refine vv_iconst 21 (v := 1) dX9_bitAt_20 rfl (by decide) ?_
  refine vv_iand 22 dX9_bitAt_21 rfl ?_
  obtain rfl := Option.some.inj hf
  exact vv_iret dX9_bitAt_22 rfl

theorem c_X9_bitAt {w : Wo} {K : Kn} {a0 : Nat} {x1 : Int32} {x2 : Int32} {q : Int32} {m : Mem} (t_a0 : K a0 = some (.inl 8)) (hf : F_X9_bitAt K m a0 x1 x2 = some q) : MM w K K yX9_bitAt cX9_bitAt 3 (some .int) rm_X9_bitAt [.ref a0, .int x1, .int x2] m (some (.int q)) m 0 0 :=
  mm_of (ini := false) (n := 0) (plainFor_of_name (by decide)) rfl (fun h => by first | rfl | cases h) (Nat.le_of_ble_eq_true rfl) rfl (v_X9_bitAt_0 t_a0 hf)

set_option maxHeartbeats 4000000 in
theorem v_X9_gets_38 {w : Wo} {K : Kn} {a0 : Nat} {x1 : Int32} {x2 : Int32} {q : (Int64 × Mem)} (t_a0 : K a0 = some (.inl 8)) (k5 : Mem → Int64 → Int32 → Option (Int64 × Mem)) (hk5 : ∀ (m : Mem) (x3 : Int64) (x5 : Int32), k5 m x3 x5 = some q → VV w RX9 cX9_gets 6 (some .long) rm_X9_gets false (QM w K (some (.long q.1)) q.2 0 0) K 5 [some (.ref a0), some (.int x1), some (.int x2), some (.long x3), none, some (.int x5)] [] 0 0 m) {m : Mem} {x5 : Int32} {s0 : Int64} {s1 : Int32} (hf : f_X9_gets_38 K a0 x1 x2 k5 m x5 s0 s1 = some q) : VV w RX9 cX9_gets 6 (some .long) rm_X9_gets false (QM w K (some (.long q.1)) q.2 0 0) K 38 [some (.ref a0), some (.int x1), some (.int x2), none, none, some (.int x5)] [.int s1, .long s0] 0 0 m := by
  unfold f_X9_gets_38 at hf
  refine vv_i2l 39 dX9_gets_38 rfl ?_
  refine vv_lor 40 dX9_gets_39 rfl ?_
  obtain ⟨z1, e_z1, hf⟩ := bd_s hf
  refine vv_lstore_nE (q := 41) (v := z1) (L' := [some (.ref a0), some (.int x1), some (.int x2), some (.long z1), none, some (.int x5)]) e_z1 dX9_gets_40 rfl (Nat.le_of_ble_eq_true rfl) rfl ?_
  refine vv_aload_n 42 dX9_gets_41 rfl rfl ?_
  refine vv_dup 43 dX9_gets_42 rfl rfl ?_
  refine gf_RX9_175 46 dX9_gets_43 rfl t_a0 ?_
  refine vv_iconst 47 (v := 1) dX9_gets_46 rfl (by decide) ?_
  refine vv_iadd 48 dX9_gets_47 rfl ?_
  obtain ⟨m2, e_m2, hf⟩ := bd_s hf
  refine pf_RX9_175 51 dX9_gets_48 rfl t_a0 e_m2 ?_
  obtain ⟨z3, e_z3, hf⟩ := bd_s hf
  refine vv_iincE (q := 54) (v := z3) (c := 1) (L' := [some (.ref a0), some (.int x1), some (.int x2), some (.long z1), none, some (.int z3)]) e_z3 dX9_gets_51 rfl rfl (by decide) (Nat.le_of_ble_eq_true rfl) rfl ?_
  refine vv_goto 5 dX9_gets_54 (by decide) ?_
  exact hk5 _ _ _ hf

set_option maxHeartbeats 4000000 in
theorem v_X9_gets_5B {w : Wo} {K : Kn} {a0 : Nat} {x1 : Int32} {x2 : Int32} {q : (Int64 × Mem)} (t_a0 : K a0 = some (.inl 8)) (k5 : Mem → Int64 → Int32 → Option (Int64 × Mem)) (hk5 : ∀ (m : Mem) (x3 : Int64) (x5 : Int32), k5 m x3 x5 = some q → VV w RX9 cX9_gets 6 (some .long) rm_X9_gets false (QM w K (some (.long q.1)) q.2 0 0) K 5 [some (.ref a0), some (.int x1), some (.int x2), some (.long x3), none, some (.int x5)] [] 0 0 m) {m : Mem} {x3 : Int64} {x5 : Int32} (hf : f_X9_gets_5B K a0 x1 x2 k5 m x3 x5 = some q) : VV w RX9 cX9_gets 6 (some .long) rm_X9_gets false (QM w K (some (.long q.1)) q.2 0 0) K 5 [some (.ref a0), some (.int x1), some (.int x2), some (.long x3), none, some (.int x5)] [] 0 0 m := by
  unfold f_X9_gets_5B at hf
  refine vv_iload 7 dX9_gets_5 rfl rfl ?_
  refine vv_iload_n 8 dX9_gets_7 rfl rfl ?_
  refine vv_icmp_ge 57 11 dX9_gets_8 rfl (by decide) (fun c1 => ?_) (fun c1 => ?_)
  · rw [if_pos c1] at hf
    refine vv_lload_n 58 dX9_gets_57 rfl rfl ?_
    obtain rfl := Option.some.inj hf
    exact vv_lret dX9_gets_58 rfl
  · rw [if_neg c1] at hf
    refine vv_lload_n 12 dX9_gets_11 rfl rfl ?_
    refine vv_iconst 13 (v := 1) dX9_gets_12 rfl (by decide) ?_
    refine vv_lshl 14 dX9_gets_13 rfl ?_
    refine vv_aload_n 15 dX9_gets_14 rfl rfl ?_
    refine gf_RX9_175 18 dX9_gets_15 rfl t_a0 ?_
    refine vv_aload_n 19 dX9_gets_18 rfl rfl ?_
    refine gf_RX9_209 22 dX9_gets_19 rfl t_a0 ?_
    refine vv_icmp_ge 37 25 dX9_gets_22 rfl (by decide) (fun c2 => ?_) (fun c2 => ?_)
    · rw [if_pos c2] at hf
      refine vv_iconst 38 (v := 0) dX9_gets_37 rfl (by decide) ?_
      exact VV.lle (v_X9_gets_38 t_a0 k5 hk5 hf) (lle_s (lle_s (lle_s (lle_n (lle_s (lle_s lle_nil))))))
    · rw [if_neg c2] at hf
      refine vv_aload_n 26 dX9_gets_25 rfl rfl ?_
      refine vv_iload_n 27 dX9_gets_26 rfl rfl ?_
      refine vv_aload_n 28 dX9_gets_27 rfl rfl ?_
      refine gf_RX9_175 31 dX9_gets_28 rfl t_a0 ?_
      obtain ⟨q3, g_q3, hf⟩ := bind_s hf
      refine vv_callV 34 (st := [.long (lshl x3 (1 : Int32))]) (As := [.int x1, .int (gI m a0 20)]) (stk2 := [.int q3, .long (lshl x3 (1 : Int32))]) (cl2 := 0) (sl2 := 0) dX9_gets_31 rfl lk_RX9_212 w_1280 w_35 rfl t_a0 ⟨(Nat.le_of_ble_eq_true rfl), (Nat.le_of_ble_eq_true rfl)⟩ rfl rfl ⟨(Nat.le_of_ble_eq_true rfl), (Nat.le_of_ble_eq_true rfl)⟩ rfl (Nat.le_of_ble_eq_true rfl) rfl rfl rfl rfl (c_X9_bitAt t_a0 g_q3) ?_
      refine vv_goto 38 dX9_gets_34 (by decide) ?_
      exact VV.lle (v_X9_gets_38 t_a0 k5 hk5 hf) (lle_s (lle_s (lle_s (lle_n (lle_s (lle_s lle_nil))))))

theorem v_X9_gets_5 {w : Wo} {K : Kn} {a0 : Nat} {x1 : Int32} {x2 : Int32} {q : (Int64 × Mem)} (t_a0 : K a0 = some (.inl 8)) : ∀ (n : Nat) (m : Mem) (x3 : Int64) (x5 : Int32), f_X9_gets_5 K a0 x1 x2 n m x3 x5 = some q → VV w RX9 cX9_gets 6 (some .long) rm_X9_gets false (QM w K (some (.long q.1)) q.2 0 0) K 5 [some (.ref a0), some (.int x1), some (.int x2), some (.long x3), none, some (.int x5)] [] 0 0 m := by
  intro n
  induction n with
  | zero => intro m x3 x5 hf; cases hf
  | succ n ih => intro m x3 x5 hf; exact v_X9_gets_5B (a0 := a0) (x1 := x1) (x2 := x2) t_a0 (f_X9_gets_5 K a0 x1 x2 n) ih hf

set_option maxHeartbeats 4000000 in
theorem v_X9_gets_0 {w : Wo} {K : Kn} {a0 : Nat} {x1 : Int32} {x2 : Int32} {q : (Int64 × Mem)} (t_a0 : K a0 = some (.inl 8)) {m : Mem} (hf : f_X9_gets K a0 x1 x2 m = some q) : VV w RX9 cX9_gets 6 (some .long) rm_X9_gets false (QM w K (some (.long q.1)) q.2 0 0) K 0 [some (.ref a0), some (.int x1), some (.int x2), none, none, none] [] 0 0 m := by
  unfold f_X9_gets at hf
  refine vv_lconst 1 (v := 0) dX9_gets_0 rfl (by decide) ?_
  refine vv_lstore_n 2 (L' := [some (.ref a0), some (.int x1), some (.int x2), some (.long (0 : Int64)), none, none]) dX9_gets_1 rfl (Nat.le_of_ble_eq_true rfl) rfl ?_
  refine vv_iconst 3 (v := 0) dX9_gets_2 rfl (by decide) ?_
  refine vv_istore 5 (L' := [some (.ref a0), some (.int x1), some (.int x2), some (.long (0 : Int64)), none, some (.int (0 : Int32))]) dX9_gets_3 rfl (Nat.le_of_ble_eq_true rfl) rfl ?_
  exact v_X9_gets_5 t_a0 FU _ _ _ hf

theorem c_X9_gets {w : Wo} {K : Kn} {a0 : Nat} {x1 : Int32} {x2 : Int32} {q : (Int64 × Mem)} {m : Mem} (t_a0 : K a0 = some (.inl 8)) (hf : F_X9_gets K m a0 x1 x2 = some q) : MM w K K yX9_gets cX9_gets 6 (some .long) rm_X9_gets [.ref a0, .int x1, .int x2] m (some (.long q.1)) q.2 0 0 :=
  mm_of (ini := false) (n := 3) (plainFor_of_name (by decide)) rfl (fun h => by first | rfl | cases h) (Nat.le_of_ble_eq_true rfl) rfl (v_X9_gets_0 t_a0 hf)

set_option maxHeartbeats 4000000 in
theorem v_X9_wideOf_0 {w : Wo} {K : Kn} {x0 : Int32} {q : Int32} {m : Mem} (hf : f_X9_wideOf x0 = some q) : VV w RX9 cX9_wideOf 1 (some .int) rm_X9_wideOf false (QM w K (some (.int q)) m 0 0) K 0 [some (.int x0)] [] 0 0 m := by
  unfold f_X9_wideOf at hf
  refine vv_iload_n 1 dX9_wideOf_0 rfl rfl ?_
  refine vv_if_ne 8 4 dX9_wideOf_1 rfl (by decide) (fun c1 => ?_) (fun c1 => ?_)
  · rw [if_pos c1] at hf
    refine vv_iconst 5 (v := 0) dX9_wideOf_4 rfl (by decide) ?_
    refine vv_goto 40 dX9_wideOf_5 (by decide) ?_
    obtain rfl := Option.some.inj hf
    exact vv_iret dX9_wideOf_40 rfl
  · rw [if_neg c1] at hf
    refine vv_iload_n 9 dX9_wideOf_8 rfl rfl ?_
    refine vv_iconst 10 (v := 1) dX9_wideOf_9 rfl (by decide) ?_
    refine vv_icmp_ne 18 13 dX9_wideOf_10 rfl (by decide) (fun c2 => ?_) (fun c2 => ?_)
    · rw [if_pos c2] at hf
      refine vv_bipush 15 (v := 7) dX9_wideOf_13 rfl (by decide) ?_
      refine vv_goto 40 dX9_wideOf_15 (by decide) ?_
      obtain rfl := Option.some.inj hf
      exact vv_iret dX9_wideOf_40 rfl
    · rw [if_neg c2] at hf
      refine vv_iload_n 19 dX9_wideOf_18 rfl rfl ?_
      refine vv_iconst 20 (v := 2) dX9_wideOf_19 rfl (by decide) ?_
      refine vv_icmp_ne 28 23 dX9_wideOf_20 rfl (by decide) (fun c3 => ?_) (fun c3 => ?_)
      · rw [if_pos c3] at hf
        refine vv_bipush 25 (v := 9) dX9_wideOf_23 rfl (by decide) ?_
        refine vv_goto 40 dX9_wideOf_25 (by decide) ?_
        obtain rfl := Option.some.inj hf
        exact vv_iret dX9_wideOf_40 rfl
      · rw [if_neg c3] at hf
        refine vv_iload_n 29 dX9_wideOf_28 rfl rfl ?_
        refine vv_iconst 30 (v := 3) dX9_wideOf_29 rfl (by decide) ?_
        refine vv_icmp_ne 38 33 dX9_wideOf_30 rfl (by decide) (fun c4 => ?_) (fun c4 => ?_)
        · rw [if_pos c4] at hf
          refine vv_bipush 35 (v := 12) dX9_wideOf_33 rfl (by decide) ?_
          refine vv_goto 40 dX9_wideOf_35 (by decide) ?_
          obtain rfl := Option.some.inj hf
          exact vv_iret dX9_wideOf_40 rfl
        · rw [if_neg c4] at hf
          refine vv_bipush 40 (v := 32) dX9_wideOf_38 rfl (by decide) ?_
          obtain rfl := Option.some.inj hf
          exact vv_iret dX9_wideOf_40 rfl

theorem c_X9_wideOf {w : Wo} {K : Kn} {x0 : Int32} {q : Int32} {m : Mem} (hf : F_X9_wideOf x0 = some q) : MM w K K yX9_wideOf cX9_wideOf 1 (some .int) rm_X9_wideOf [.int x0] m (some (.int q)) m 0 0 :=
  mm_of (ini := false) (n := 0) (plainFor_of_name (by decide)) rfl (fun h => by first | rfl | cases h) (Nat.le_of_ble_eq_true rfl) rfl (v_X9_wideOf_0 hf)

set_option maxHeartbeats 4000000 in
theorem v_X9_signed_34 {w : Wo} {K : Kn} {x0 : Int64} {x2 : Int32} {q : Int64} {m : Mem} {s0 : Int64} (hf : f_X9_signed_34 x0 x2 s0 = some q) : VV w RX9 cX9_signed 5 (some .long) rm_X9_signed false (QM w K (some (.long q)) m 0 0) K 34 [some (.long x0), none, none, none, none] [.long s0] 0 0 m := by
  unfold f_X9_signed_34 at hf
  refine vv_lstore_n 35 (L' := [some (.long x0), none, none, some (.long s0), none]) dX9_signed_34 rfl (Nat.le_of_ble_eq_true rfl) rfl ?_
  refine vv_lload_n 36 dX9_signed_35 rfl rfl ?_
  refine vv_lload_n 37 dX9_signed_36 rfl rfl ?_
  refine vv_lcmp 38 dX9_signed_37 rfl ?_
  refine vv_if_le 51 41 dX9_signed_38 rfl (by decide) (fun c1 => ?_) (fun c1 => ?_)
  · rw [if_pos c1] at hf
    refine vv_lload_n 52 dX9_signed_51 rfl rfl ?_
    obtain rfl := Option.some.inj hf
    exact vv_lret dX9_signed_52 rfl
  · rw [if_neg c1] at hf
    refine vv_lload_n 42 dX9_signed_41 rfl rfl ?_
    refine vv_ldc2 45 (v := 2) dX9_signed_42 rfl w_1291 ?_
    refine vv_lload_n 46 dX9_signed_45 rfl rfl ?_
    refine vv_lmul 47 dX9_signed_46 rfl ?_
    refine vv_lsub 48 dX9_signed_47 rfl ?_
    refine vv_goto 52 dX9_signed_48 (by decide) ?_
    obtain rfl := Option.some.inj hf
    exact vv_lret dX9_signed_52 rfl

set_option maxHeartbeats 4000000 in
theorem v_X9_signed_0 {w : Wo} {K : Kn} {x0 : Int64} {x2 : Int32} {q : Int64} {m : Mem} (hf : f_X9_signed x0 x2 = some q) : VV w RX9 cX9_signed 5 (some .long) rm_X9_signed false (QM w K (some (.long q)) m 0 0) K 0 [some (.long x0), none, some (.int x2), none, none] [] 0 0 m := by
  unfold f_X9_signed at hf
  refine vv_iload_n 1 dX9_signed_0 rfl rfl ?_
  refine vv_iconst 2 (v := 4) dX9_signed_1 rfl (by decide) ?_
  refine vv_icmp_ne 9 5 dX9_signed_2 rfl (by decide) (fun c1 => ?_) (fun c1 => ?_)
  · rw [if_pos c1] at hf
    refine vv_lload_n 6 dX9_signed_5 rfl rfl ?_
    refine vv_l2i 7 dX9_signed_6 rfl ?_
    refine vv_i2l 8 dX9_signed_7 rfl ?_
    obtain rfl := Option.some.inj hf
    exact vv_lret dX9_signed_8 rfl
  · rw [if_neg c1] at hf
    refine vv_iload_n 10 dX9_signed_9 rfl rfl ?_
    refine vv_iconst 11 (v := 1) dX9_signed_10 rfl (by decide) ?_
    refine vv_icmp_ne 20 14 dX9_signed_11 rfl (by decide) (fun c2 => ?_) (fun c2 => ?_)
    · rw [if_pos c2] at hf
      refine vv_ldc2 17 (v := 64) dX9_signed_14 rfl w_1288 ?_
      refine vv_goto 34 dX9_signed_17 (by decide) ?_
      exact VV.lle (v_X9_signed_34 hf) (lle_s (lle_s (lle_n (lle_s (lle_s lle_nil)))))
    · rw [if_neg c2] at hf
      refine vv_iload_n 21 dX9_signed_20 rfl rfl ?_
      refine vv_iconst 22 (v := 2) dX9_signed_21 rfl (by decide) ?_
      refine vv_icmp_ne 31 25 dX9_signed_22 rfl (by decide) (fun c3 => ?_) (fun c3 => ?_)
      · rw [if_pos c3] at hf
        refine vv_ldc2 28 (v := 256) dX9_signed_25 rfl w_1289 ?_
        refine vv_goto 34 dX9_signed_28 (by decide) ?_
        exact VV.lle (v_X9_signed_34 hf) (lle_s (lle_s (lle_n (lle_s (lle_s lle_nil)))))
      · rw [if_neg c3] at hf
        refine vv_ldc2 34 (v := 2048) dX9_signed_31 rfl w_1290 ?_
        exact VV.lle (v_X9_signed_34 hf) (lle_s (lle_s (lle_n (lle_s (lle_s lle_nil)))))

theorem c_X9_signed {w : Wo} {K : Kn} {x0 : Int64} {x2 : Int32} {q : Int64} {m : Mem} (hf : F_X9_signed x0 x2 = some q) : MM w K K yX9_signed cX9_signed 5 (some .long) rm_X9_signed [.long x0, .int x2] m (some (.long q)) m 0 0 :=
  mm_of (ini := false) (n := 2) (plainFor_of_name (by decide)) rfl (fun h => by first | rfl | cases h) (Nat.le_of_ble_eq_true rfl) rfl (v_X9_signed_0 hf)

set_option maxHeartbeats 4000000 in
theorem v_X9_classOf_0 {w : Wo} {K : Kn} {x0 : Int64} {q : Int32} {m : Mem} (hf : f_X9_classOf x0 = some q) : VV w RX9 cX9_classOf 2 (some .int) rm_X9_classOf false (QM w K (some (.int q)) m 0 0) K 0 [some (.long x0), none] [] 0 0 m := by
  unfold f_X9_classOf at hf
  refine vv_lload_n 1 dX9_classOf_0 rfl rfl ?_
  refine vv_lconst 2 (v := 0) dX9_classOf_1 rfl (by decide) ?_
  refine vv_lcmp 3 dX9_classOf_2 rfl ?_
  refine vv_if_ne 10 6 dX9_classOf_3 rfl (by decide) (fun c1 => ?_) (fun c1 => ?_)
  · rw [if_pos c1] at hf
    refine vv_iconst 7 (v := 0) dX9_classOf_6 rfl (by decide) ?_
    refine vv_goto 62 dX9_classOf_7 (by decide) ?_
    obtain rfl := Option.some.inj hf
    exact vv_iret dX9_classOf_62 rfl
  · rw [if_neg c1] at hf
    refine vv_lload_n 11 dX9_classOf_10 rfl rfl ?_
    refine vv_ldc2 14 (v := (-63)) dX9_classOf_11 rfl w_1295 ?_
    refine vv_ldc2 17 (v := 64) dX9_classOf_14 rfl w_1288 ?_
    obtain ⟨q2, g_q2, hf⟩ := bind_s hf
    refine vv_callS 20 (st := []) (As := [.long x0, .long (-63 : Int64), .long (64 : Int64)]) (stk2 := [.int q2]) (cl2 := 0) (sl2 := 0) dX9_classOf_17 rfl lk_RX9_83 w_1206 ⟨(Nat.le_of_ble_eq_true rfl), (Nat.le_of_ble_eq_true rfl)⟩ rfl rfl ⟨(Nat.le_of_ble_eq_true rfl), (Nat.le_of_ble_eq_true rfl)⟩ rfl (Nat.le_of_ble_eq_true rfl) rfl rfl rfl rfl (c_X9_in g_q2) ?_
    refine vv_if_eq 27 23 dX9_classOf_20 rfl (by decide) (fun c3 => ?_) (fun c3 => ?_)
    · rw [if_pos c3] at hf
      refine vv_lload_n 28 dX9_classOf_27 rfl rfl ?_
      refine vv_ldc2 31 (v := (-255)) dX9_classOf_28 rfl w_1296 ?_
      refine vv_ldc2 34 (v := 256) dX9_classOf_31 rfl w_1289 ?_
      obtain ⟨q4, g_q4, hf⟩ := bind_s hf
      refine vv_callS 37 (st := []) (As := [.long x0, .long (-255 : Int64), .long (256 : Int64)]) (stk2 := [.int q4]) (cl2 := 0) (sl2 := 0) dX9_classOf_34 rfl lk_RX9_83 w_1206 ⟨(Nat.le_of_ble_eq_true rfl), (Nat.le_of_ble_eq_true rfl)⟩ rfl rfl ⟨(Nat.le_of_ble_eq_true rfl), (Nat.le_of_ble_eq_true rfl)⟩ rfl (Nat.le_of_ble_eq_true rfl) rfl rfl rfl rfl (c_X9_in g_q4) ?_
      refine vv_if_eq 44 40 dX9_classOf_37 rfl (by decide) (fun c5 => ?_) (fun c5 => ?_)
      · rw [if_pos c5] at hf
        refine vv_lload_n 45 dX9_classOf_44 rfl rfl ?_
        refine vv_ldc2 48 (v := (-2047)) dX9_classOf_45 rfl w_1297 ?_
        refine vv_ldc2 51 (v := 2048) dX9_classOf_48 rfl w_1290 ?_
        obtain ⟨q6, g_q6, hf⟩ := bind_s hf
        refine vv_callS 54 (st := []) (As := [.long x0, .long (-2047 : Int64), .long (2048 : Int64)]) (stk2 := [.int q6]) (cl2 := 0) (sl2 := 0) dX9_classOf_51 rfl lk_RX9_83 w_1206 ⟨(Nat.le_of_ble_eq_true rfl), (Nat.le_of_ble_eq_true rfl)⟩ rfl rfl ⟨(Nat.le_of_ble_eq_true rfl), (Nat.le_of_ble_eq_true rfl)⟩ rfl (Nat.le_of_ble_eq_true rfl) rfl rfl rfl rfl (c_X9_in g_q6) ?_
        refine vv_if_eq 61 57 dX9_classOf_54 rfl (by decide) (fun c7 => ?_) (fun c7 => ?_)
        · rw [if_pos c7] at hf
          refine vv_iconst 62 (v := 4) dX9_classOf_61 rfl (by decide) ?_
          obtain rfl := Option.some.inj hf
          exact vv_iret dX9_classOf_62 rfl
        · rw [if_neg c7] at hf
          refine vv_iconst 58 (v := 3) dX9_classOf_57 rfl (by decide) ?_
          refine vv_goto 62 dX9_classOf_58 (by decide) ?_
          obtain rfl := Option.some.inj hf
          exact vv_iret dX9_classOf_62 rfl
      · rw [if_neg c5] at hf
        refine vv_iconst 41 (v := 2) dX9_classOf_40 rfl (by decide) ?_
        refine vv_goto 62 dX9_classOf_41 (by decide) ?_
        obtain rfl := Option.some.inj hf
        exact vv_iret dX9_classOf_62 rfl
    · rw [if_neg c3] at hf
      refine vv_iconst 24 (v := 1) dX9_classOf_23 rfl (by decide) ?_
      refine vv_goto 62 dX9_classOf_24 (by decide) ?_
      obtain rfl := Option.some.inj hf
      exact vv_iret dX9_classOf_62 rfl

theorem c_X9_classOf {w : Wo} {K : Kn} {x0 : Int64} {q : Int32} {m : Mem} (hf : F_X9_classOf x0 = some q) : MM w K K yX9_classOf cX9_classOf 2 (some .int) rm_X9_classOf [.long x0] m (some (.int q)) m 0 0 :=
  mm_of (ini := false) (n := 0) (plainFor_of_name (by decide)) rfl (fun h => by first | rfl | cases h) (Nat.le_of_ble_eq_true rfl) rfl (v_X9_classOf_0 hf)

set_option maxHeartbeats 4000000 in
theorem v_X9_wayOf_73 {w : Wo} {K : Kn} {a0 : Nat} {x1 : Int64} {q : Int32} {m : Mem} (t_a0 : K a0 = some (.inl 8)) {s0 : Int32} (hf : f_X9_wayOf_73 K m a0 x1 s0 = some q) : VV w RX9 cX9_wayOf 6 (some .int) rm_X9_wayOf false (QM w K (some (.int q)) m 0 0) K 73 [none, none, none, none, none, none] [.int s0] 0 0 m := by
  unfold f_X9_wayOf_73 at hf
  refine vv_istore 75 (L' := [none, none, none, none, none, some (.int s0)]) dX9_wayOf_73 rfl (Nat.le_of_ble_eq_true rfl) rfl ?_
  refine vv_iload 77 dX9_wayOf_75 rfl rfl ?_
  refine vv_if_eq 85 80 dX9_wayOf_77 rfl (by decide) (fun c1 => ?_) (fun c1 => ?_)
  · rw [if_pos c1] at hf
    refine vv_bipush 87 (v := 7) dX9_wayOf_85 rfl (by decide) ?_
    obtain rfl := Option.some.inj hf
    exact vv_iret dX9_wayOf_87 rfl
  · rw [if_neg c1] at hf
    refine vv_bipush 82 (v := 6) dX9_wayOf_80 rfl (by decide) ?_
    refine vv_goto 87 dX9_wayOf_82 (by decide) ?_
    obtain rfl := Option.some.inj hf
    exact vv_iret dX9_wayOf_87 rfl

set_option maxHeartbeats 4000000 in
theorem v_X9_wayOf_72 {w : Wo} {K : Kn} {a0 : Nat} {x1 : Int64} {q : Int32} {m : Mem} (t_a0 : K a0 = some (.inl 8)) (hf : f_X9_wayOf_72 K m a0 x1 = some q) : VV w RX9 cX9_wayOf 6 (some .int) rm_X9_wayOf false (QM w K (some (.int q)) m 0 0) K 72 [none, none, none, none, none, none] [] 0 0 m := by
  unfold f_X9_wayOf_72 at hf
  refine vv_iconst 73 (v := 0) dX9_wayOf_72 rfl (by decide) ?_
  exact v_X9_wayOf_73 t_a0 hf

set_option maxHeartbeats 4000000 in
theorem v_X9_wayOf_0 {w : Wo} {K : Kn} {a0 : Nat} {x1 : Int64} {q : Int32} {m : Mem} (t_a0 : K a0 = some (.inl 8)) (hf : f_X9_wayOf K m a0 x1 = some q) : VV w RX9 cX9_wayOf 6 (some .int) rm_X9_wayOf false (QM w K (some (.int q)) m 0 0) K 0 [some (.ref a0), some (.long x1), none, none, none, none] [] 0 0 m := by
  unfold f_X9_wayOf at hf
  refine vv_lload_n 1 dX9_wayOf_0 rfl rfl ?_
  refine vv_lconst 2 (v := 0) dX9_wayOf_1 rfl (by decide) ?_
  refine vv_lcmp 3 dX9_wayOf_2 rfl ?_
  refine vv_if_ne 8 6 dX9_wayOf_3 rfl (by decide) (fun c1 => ?_) (fun c1 => ?_)
  · rw [if_pos c1] at hf
    refine vv_iconst 7 (v := 5) dX9_wayOf_6 rfl (by decide) ?_
    obtain rfl := Option.some.inj hf
    exact vv_iret dX9_wayOf_7 rfl
  · rw [if_neg c1] at hf
    refine vv_lload_n 9 dX9_wayOf_8 rfl rfl ?_
    obtain ⟨q2, g_q2, hf⟩ := bind_s hf
    refine vv_callS 12 (st := []) (As := [.long x1]) (stk2 := [.int q2]) (cl2 := 0) (sl2 := 0) dX9_wayOf_9 rfl lk_RX9_123 w_495 ⟨(Nat.le_of_ble_eq_true rfl), (Nat.le_of_ble_eq_true rfl)⟩ rfl rfl ⟨(Nat.le_of_ble_eq_true rfl), (Nat.le_of_ble_eq_true rfl)⟩ rfl (Nat.le_of_ble_eq_true rfl) rfl rfl rfl rfl (c_J13_numberOfLeadingZeros_95d88 g_q2) ?_
    refine vv_istore_n 13 (L' := [some (.ref a0), some (.long x1), none, some (.int q2), none, none]) dX9_wayOf_12 rfl (Nat.le_of_ble_eq_true rfl) rfl ?_
    refine vv_lload_n 14 dX9_wayOf_13 rfl rfl ?_
    obtain ⟨q3, g_q3, hf⟩ := bind_s hf
    refine vv_callS 17 (st := []) (As := [.long x1]) (stk2 := [.int q3]) (cl2 := 0) (sl2 := 0) dX9_wayOf_14 rfl lk_RX9_127 w_502 ⟨(Nat.le_of_ble_eq_true rfl), (Nat.le_of_ble_eq_true rfl)⟩ rfl rfl ⟨(Nat.le_of_ble_eq_true rfl), (Nat.le_of_ble_eq_true rfl)⟩ rfl (Nat.le_of_ble_eq_true rfl) rfl rfl rfl rfl (c_J13_numberOfTrailingZeros_95d88 g_q3) ?_
    refine vv_istore 19 (L' := [some (.ref a0), some (.long x1), none, some (.int q2), some (.int q3), none]) dX9_wayOf_17 rfl (Nat.le_of_ble_eq_true rfl) rfl ?_
    refine vv_aload_n 20 dX9_wayOf_19 rfl rfl ?_
    refine gf_RX9_130 23 dX9_wayOf_20 rfl t_a0 ?_
    refine vv_if_eq 72 26 dX9_wayOf_23 rfl (by decide) (fun c4 => ?_) (fun c4 => ?_)
    · rw [if_pos c4] at hf
      exact VV.lle (v_X9_wayOf_72 t_a0 hf) (lle_n (lle_n (lle_s (lle_n (lle_n (lle_s lle_nil))))))
    · rw [if_neg c4] at hf
      refine vv_iload_n 27 dX9_wayOf_26 rfl rfl ?_
      refine vv_aload_n 28 dX9_wayOf_27 rfl rfl ?_
      refine gf_RX9_134 31 dX9_wayOf_28 rfl t_a0 ?_
      refine vv_icmp_lt 72 34 dX9_wayOf_31 rfl (by decide) (fun c5 => ?_) (fun c5 => ?_)
      · rw [if_pos c5] at hf
        exact VV.lle (v_X9_wayOf_72 t_a0 hf) (lle_n (lle_n (lle_s (lle_n (lle_n (lle_s lle_nil))))))
      · rw [if_neg c5] at hf
        refine vv_iload 36 dX9_wayOf_34 rfl rfl ?_
        refine vv_aload_n 37 dX9_wayOf_36 rfl rfl ?_
        refine gf_RX9_138 40 dX9_wayOf_37 rfl t_a0 ?_
        refine vv_icmp_lt 72 43 dX9_wayOf_40 rfl (by decide) (fun c6 => ?_) (fun c6 => ?_)
        · rw [if_pos c6] at hf
          exact VV.lle (v_X9_wayOf_72 t_a0 hf) (lle_n (lle_n (lle_s (lle_n (lle_n (lle_s lle_nil))))))
        · rw [if_neg c6] at hf
          refine vv_bipush 45 (v := 64) dX9_wayOf_43 rfl (by decide) ?_
          refine vv_aload_n 46 dX9_wayOf_45 rfl rfl ?_
          refine gf_RX9_134 49 dX9_wayOf_46 rfl t_a0 ?_
          refine vv_isub 50 dX9_wayOf_49 rfl ?_
          refine vv_aload_n 51 dX9_wayOf_50 rfl rfl ?_
          refine gf_RX9_138 54 dX9_wayOf_51 rfl t_a0 ?_
          refine vv_isub 55 dX9_wayOf_54 rfl ?_
          refine vv_bipush 57 (v := 64) dX9_wayOf_55 rfl (by decide) ?_
          refine vv_iload_n 58 dX9_wayOf_57 rfl rfl ?_
          refine vv_isub 59 dX9_wayOf_58 rfl ?_
          refine vv_iload 61 dX9_wayOf_59 rfl rfl ?_
          refine vv_isub 62 dX9_wayOf_61 rfl ?_
          refine vv_bipush 64 (v := 11) dX9_wayOf_62 rfl (by decide) ?_
          refine vv_iadd 65 dX9_wayOf_64 rfl ?_
          refine vv_icmp_gt 72 68 dX9_wayOf_65 rfl (by decide) (fun c7 => ?_) (fun c7 => ?_)
          · rw [if_pos c7] at hf
            exact VV.lle (v_X9_wayOf_72 t_a0 hf) (lle_n (lle_n (lle_s (lle_n (lle_n (lle_s lle_nil))))))
          · rw [if_neg c7] at hf
            refine vv_iconst 69 (v := 1) dX9_wayOf_68 rfl (by decide) ?_
            refine vv_goto 73 dX9_wayOf_69 (by decide) ?_
            exact VV.lle (v_X9_wayOf_73 t_a0 hf) (lle_n (lle_n (lle_s (lle_n (lle_n (lle_s lle_nil))))))

theorem c_X9_wayOf {w : Wo} {K : Kn} {a0 : Nat} {x1 : Int64} {q : Int32} {m : Mem} (t_a0 : K a0 = some (.inl 8)) (hf : F_X9_wayOf K m a0 x1 = some q) : MM w K K yX9_wayOf cX9_wayOf 6 (some .int) rm_X9_wayOf [.ref a0, .long x1] m (some (.int q)) m 0 0 :=
  mm_of (ini := false) (n := 3) (plainFor_of_name (by decide)) rfl (fun h => by first | rfl | cases h) (Nat.le_of_ble_eq_true rfl) rfl (v_X9_wayOf_0 t_a0 hf)

set_option maxHeartbeats 4000000 in
theorem v_X9_aheadOf_0 {w : Wo} {K : Kn} {x0 : Int64} {q : Int32} {m : Mem} (hf : f_X9_aheadOf x0 = some q) : VV w RX9 cX9_aheadOf 2 (some .int) rm_X9_aheadOf false (QM w K (some (.int q)) m 0 0) K 0 [some (.long x0), none] [] 0 0 m := by
  unfold f_X9_aheadOf at hf
  refine vv_bipush 2 (v := 31) dX9_aheadOf_0 rfl (by decide) ?_
  refine vv_lload_n 3 dX9_aheadOf_2 rfl rfl ?_
  obtain ⟨q1, g_q1, hf⟩ := bind_s hf
  refine vv_callS 6 (st := [.int (31 : Int32)]) (As := [.long x0]) (stk2 := [.int q1, .int (31 : Int32)]) (cl2 := 0) (sl2 := 0) dX9_aheadOf_3 rfl lk_RX9_123 w_495 ⟨(Nat.le_of_ble_eq_true rfl), (Nat.le_of_ble_eq_true rfl)⟩ rfl rfl ⟨(Nat.le_of_ble_eq_true rfl), (Nat.le_of_ble_eq_true rfl)⟩ rfl (Nat.le_of_ble_eq_true rfl) rfl rfl rfl rfl (c_J13_numberOfLeadingZeros_95d88 g_q1) ?_
  obtain ⟨q2, g_q2, hf⟩ := bind_s hf
  refine vv_callS 9 (st := []) (As := [.int (31 : Int32), .int q1]) (stk2 := [.int q2]) (cl2 := 0) (sl2 := 0) dX9_aheadOf_6 rfl lk_RX9_141 w_508 ⟨(Nat.le_of_ble_eq_true rfl), (Nat.le_of_ble_eq_true rfl)⟩ rfl rfl ⟨(Nat.le_of_ble_eq_true rfl), (Nat.le_of_ble_eq_true rfl)⟩ rfl (Nat.le_of_ble_eq_true rfl) rfl rfl rfl rfl (c_J9_min_7cf53 g_q2) ?_
  obtain rfl := Option.some.inj hf
  exact vv_iret dX9_aheadOf_9 rfl

theorem c_X9_aheadOf {w : Wo} {K : Kn} {x0 : Int64} {q : Int32} {m : Mem} (hf : F_X9_aheadOf x0 = some q) : MM w K K yX9_aheadOf cX9_aheadOf 2 (some .int) rm_X9_aheadOf [.long x0] m (some (.int q)) m 0 0 :=
  mm_of (ini := false) (n := 0) (plainFor_of_name (by decide)) rfl (fun h => by first | rfl | cases h) (Nat.le_of_ble_eq_true rfl) rfl (v_X9_aheadOf_0 hf)

set_option maxHeartbeats 4000000 in
theorem v_X9_readsOne_326 {w : Wo} {K : Kn} {a0 : Nat} {x1 : Int32} {q : (Int32 × Mem)} (t_a0 : K a0 = some (.inl 8)) {m : Mem} {x2 : Int32} {x6 : Int64} {x8 : Int32} {x11 : Int64} (hf : f_X9_readsOne_326 K a0 x1 m x2 x6 x8 x11 = some q) : VV w RX9 cX9_readsOne 13 (some .int) rm_X9_readsOne false (QM w K (some (.int q.1)) q.2 0 0) K 326 [some (.ref a0), none, some (.int x2), none, none, none, some (.long x6), none, some (.int x8), none, none, some (.long x11), none] [] 0 0 m := by
  unfold f_X9_readsOne_326 at hf
  refine vv_aload_n 327 dX9_readsOne_326 rfl rfl ?_
  refine vv_lload 329 dX9_readsOne_327 rfl rfl ?_
  refine vv_aload_n 330 dX9_readsOne_329 rfl rfl ?_
  refine gf_RX9_149 333 dX9_readsOne_330 rfl t_a0 ?_
  refine vv_lsub 334 dX9_readsOne_333 rfl ?_
  obtain ⟨m1, e_m1, hf⟩ := bd_s hf
  refine pf_RX9_153 337 dX9_readsOne_334 rfl t_a0 e_m1 ?_
  refine vv_aload_n 338 dX9_readsOne_337 rfl rfl ?_
  refine vv_lload 340 dX9_readsOne_338 rfl rfl ?_
  obtain ⟨m2, e_m2, hf⟩ := bd_s hf
  refine pf_RX9_149 343 dX9_readsOne_340 rfl t_a0 e_m2 ?_
  refine vv_aload_n 344 dX9_readsOne_343 rfl rfl ?_
  refine vv_dup 345 dX9_readsOne_344 rfl rfl ?_
  refine gf_RX9_159 348 dX9_readsOne_345 rfl t_a0 ?_
  refine vv_lload 350 dX9_readsOne_348 rfl rfl ?_
  refine vv_lxor 351 dX9_readsOne_350 rfl ?_
  obtain ⟨m3, e_m3, hf⟩ := bd_s hf
  refine pf_RX9_159 354 dX9_readsOne_351 rfl t_a0 e_m3 ?_
  refine vv_aload_n 355 dX9_readsOne_354 rfl rfl ?_
  obtain ⟨b4, g_b4, hf⟩ := bind_s hf
  have t_b4 := (ldA_spec g_b4).2
  refine gf_RX9_60 358 dX9_readsOne_355 rfl t_a0 (ldA_spec g_b4).1 ?_
  refine vv_aload_n 359 dX9_readsOne_358 rfl rfl ?_
  refine gf_RX9_223 362 dX9_readsOne_359 rfl t_a0 ?_
  refine vv_iload_n 363 dX9_readsOne_362 rfl rfl ?_
  obtain ⟨m5, g_m5, hf⟩ := bind_s hf
  refine vv_iast 364 dX9_readsOne_363 rfl t_b4 g_m5 ?_
  refine vv_aload_n 365 dX9_readsOne_364 rfl rfl ?_
  obtain ⟨b6, g_b6, hf⟩ := bind_s hf
  have t_b6 := (ldA_spec g_b6).2
  refine gf_RX9_63 368 dX9_readsOne_365 rfl t_a0 (ldA_spec g_b6).1 ?_
  refine vv_aload_n 369 dX9_readsOne_368 rfl rfl ?_
  refine gf_RX9_223 372 dX9_readsOne_369 rfl t_a0 ?_
  refine vv_iload 374 dX9_readsOne_372 rfl rfl ?_
  obtain ⟨m7, g_m7, hf⟩ := bind_s hf
  refine vv_iast 375 dX9_readsOne_374 rfl t_b6 g_m7 ?_
  refine vv_iconst 376 (v := 0) dX9_readsOne_375 rfl (by decide) ?_
  obtain rfl := Option.some.inj hf
  exact vv_iret dX9_readsOne_376 rfl

set_option maxHeartbeats 4000000 in
theorem v_X9_readsOne_248 {w : Wo} {K : Kn} {a0 : Nat} {x1 : Int32} {q : (Int32 × Mem)} (t_a0 : K a0 = some (.inl 8)) {m : Mem} {x2 : Int32} {x3 : Int64} {x5 : Int32} {x6 : Int64} {x8 : Int32} {x9 : Int32} {x10 : Int32} (hf : f_X9_readsOne_248 K a0 x1 m x2 x3 x5 x6 x8 x9 x10 = some q) : VV w RX9 cX9_readsOne 13 (some .int) rm_X9_readsOne false (QM w K (some (.int q.1)) q.2 0 0) K 248 [some (.ref a0), none, some (.int x2), some (.long x3), none, some (.int x5), some (.long x6), none, some (.int x8), some (.int x9), some (.int x10), none, none] [] 0 0 m := by
  unfold f_X9_readsOne_248 at hf
  refine vv_aload_n 249 dX9_readsOne_248 rfl rfl ?_
  refine gf_RX9_175 252 dX9_readsOne_249 rfl t_a0 ?_
  refine vv_aload_n 253 dX9_readsOne_252 rfl rfl ?_
  refine gf_RX9_209 256 dX9_readsOne_253 rfl t_a0 ?_
  refine vv_icmp_le 261 259 dX9_readsOne_256 rfl (by decide) (fun c1 => ?_) (fun c1 => ?_)
  · rw [if_pos c1] at hf
    refine vv_aload_n 262 dX9_readsOne_261 rfl rfl ?_
    refine gf_RX9_149 265 dX9_readsOne_262 rfl t_a0 ?_
    refine vv_aload_n 266 dX9_readsOne_265 rfl rfl ?_
    refine gf_RX9_153 269 dX9_readsOne_266 rfl t_a0 ?_
    refine vv_ladd 270 dX9_readsOne_269 rfl ?_
    refine vv_lload_n 271 dX9_readsOne_270 rfl rfl ?_
    refine vv_ladd 272 dX9_readsOne_271 rfl ?_
    obtain ⟨z2, e_z2, hf⟩ := bd_s hf
    refine vv_lstoreE (q := 274) (v := z2) (L' := [some (.ref a0), none, some (.int x2), some (.long x3), none, some (.int x5), some (.long x6), none, some (.int x8), some (.int x9), some (.int x10), some (.long z2), none]) e_z2 dX9_readsOne_272 rfl (Nat.le_of_ble_eq_true rfl) rfl ?_
    refine vv_lload 276 dX9_readsOne_274 rfl rfl ?_
    refine vv_aload_n 277 dX9_readsOne_276 rfl rfl ?_
    refine gf_RX9_149 280 dX9_readsOne_277 rfl t_a0 ?_
    refine vv_lcmp 281 dX9_readsOne_280 rfl ?_
    refine vv_if_le 293 284 dX9_readsOne_281 rfl (by decide) (fun c3 => ?_) (fun c3 => ?_)
    · rw [if_pos c3] at hf
      refine vv_iconst 294 (v := 3) dX9_readsOne_293 rfl (by decide) ?_
      obtain rfl := Option.some.inj hf
      exact vv_iret dX9_readsOne_294 rfl
    · rw [if_neg c3] at hf
      refine vv_lload 286 dX9_readsOne_284 rfl rfl ?_
      refine vv_ldc2 289 (v := 2000000000) dX9_readsOne_286 rfl w_1225 ?_
      refine vv_lcmp 290 dX9_readsOne_289 rfl ?_
      refine vv_if_le 295 293 dX9_readsOne_290 rfl (by decide) (fun c4 => ?_) (fun c4 => ?_)
      · rw [if_pos c4] at hf
        refine vv_iload 297 dX9_readsOne_295 rfl rfl ?_
        refine vv_if_ne 302 300 dX9_readsOne_297 rfl (by decide) (fun c5 => ?_) (fun c5 => ?_)
        · rw [if_pos c5] at hf
          refine vv_iconst 301 (v := 4) dX9_readsOne_300 rfl (by decide) ?_
          obtain rfl := Option.some.inj hf
          exact vv_iret dX9_readsOne_301 rfl
        · rw [if_neg c5] at hf
          refine vv_iload 304 dX9_readsOne_302 rfl rfl ?_
          refine vv_bipush 306 (v := 7) dX9_readsOne_304 rfl (by decide) ?_
          refine vv_icmp_ne 326 309 dX9_readsOne_306 rfl (by decide) (fun c6 => ?_) (fun c6 => ?_)
          · rw [if_pos c6] at hf
            refine vv_aload_n 310 dX9_readsOne_309 rfl rfl ?_
            refine vv_iconst 311 (v := 1) dX9_readsOne_310 rfl (by decide) ?_
            obtain ⟨m7, e_m7, hf⟩ := bd_s hf
            refine pf_RX9_130 314 dX9_readsOne_311 rfl t_a0 (by decide) e_m7 ?_
            refine vv_aload_n 315 dX9_readsOne_314 rfl rfl ?_
            refine vv_iload 317 dX9_readsOne_315 rfl rfl ?_
            obtain ⟨m8, e_m8, hf⟩ := bd_s hf
            refine pf_RX9_134 320 dX9_readsOne_317 rfl t_a0 e_m8 ?_
            refine vv_aload_n 321 dX9_readsOne_320 rfl rfl ?_
            refine vv_iload 323 dX9_readsOne_321 rfl rfl ?_
            obtain ⟨m9, e_m9, hf⟩ := bd_s hf
            refine pf_RX9_138 326 dX9_readsOne_323 rfl t_a0 e_m9 ?_
            exact VV.lle (v_X9_readsOne_326 t_a0 hf) (lle_s (lle_s (lle_s (lle_n (lle_s (lle_n (lle_s (lle_s (lle_s (lle_n (lle_n (lle_s (lle_s lle_nil)))))))))))))
          · rw [if_neg c6] at hf
            exact VV.lle (v_X9_readsOne_326 t_a0 hf) (lle_s (lle_s (lle_s (lle_n (lle_s (lle_n (lle_s (lle_s (lle_s (lle_n (lle_n (lle_s (lle_s lle_nil)))))))))))))
      · rw [if_neg c4] at hf
        refine vv_iconst 294 (v := 3) dX9_readsOne_293 rfl (by decide) ?_
        obtain rfl := Option.some.inj hf
        exact vv_iret dX9_readsOne_294 rfl
  · rw [if_neg c1] at hf
    refine vv_iconst 260 (v := 2) dX9_readsOne_259 rfl (by decide) ?_
    obtain rfl := Option.some.inj hf
    exact vv_iret dX9_readsOne_260 rfl

set_option maxHeartbeats 4000000 in
theorem v_X9_readsOne_246 {w : Wo} {K : Kn} {a0 : Nat} {x1 : Int32} {q : (Int32 × Mem)} (t_a0 : K a0 = some (.inl 8)) {m : Mem} {x2 : Int32} {x3 : Int64} {x6 : Int64} {x8 : Int32} {x9 : Int32} {x10 : Int32} {s0 : Int32} (hf : f_X9_readsOne_246 K a0 x1 m x2 x3 x6 x8 x9 x10 s0 = some q) : VV w RX9 cX9_readsOne 13 (some .int) rm_X9_readsOne false (QM w K (some (.int q.1)) q.2 0 0) K 246 [some (.ref a0), none, some (.int x2), some (.long x3), none, none, some (.long x6), none, some (.int x8), some (.int x9), some (.int x10), none, none] [.int s0] 0 0 m := by
  unfold f_X9_readsOne_246 at hf
  refine vv_istore 248 (L' := [some (.ref a0), none, some (.int x2), some (.long x3), none, some (.int s0), some (.long x6), none, some (.int x8), some (.int x9), some (.int x10), none, none]) dX9_readsOne_246 rfl (Nat.le_of_ble_eq_true rfl) rfl ?_
  exact v_X9_readsOne_248 t_a0 hf

set_option maxHeartbeats 4000000 in
theorem v_X9_readsOne_241 {w : Wo} {K : Kn} {a0 : Nat} {x1 : Int32} {q : (Int32 × Mem)} (t_a0 : K a0 = some (.inl 8)) {m : Mem} {x2 : Int32} {x3 : Int64} {x6 : Int64} {x8 : Int32} {x9 : Int32} {x10 : Int32} (hf : f_X9_readsOne_241 K a0 x1 m x2 x3 x6 x8 x9 x10 = some q) : VV w RX9 cX9_readsOne 13 (some .int) rm_X9_readsOne false (QM w K (some (.int q.1)) q.2 0 0) K 241 [some (.ref a0), none, some (.int x2), some (.long x3), none, none, some (.long x6), none, some (.int x8), some (.int x9), some (.int x10), none, none] [] 0 0 m := by
  unfold f_X9_readsOne_241 at hf
  refine vv_iconst 242 (v := 1) dX9_readsOne_241 rfl (by decide) ?_
  refine vv_goto 246 dX9_readsOne_242 (by decide) ?_
  exact v_X9_readsOne_246 t_a0 hf

set_option maxHeartbeats 4000000 in
theorem v_X9_readsOne_245 {w : Wo} {K : Kn} {a0 : Nat} {x1 : Int32} {q : (Int32 × Mem)} (t_a0 : K a0 = some (.inl 8)) {m : Mem} {x2 : Int32} {x3 : Int64} {x6 : Int64} {x8 : Int32} {x9 : Int32} {x10 : Int32} (hf : f_X9_readsOne_245 K a0 x1 m x2 x3 x6 x8 x9 x10 = some q) : VV w RX9 cX9_readsOne 13 (some .int) rm_X9_readsOne false (QM w K (some (.int q.1)) q.2 0 0) K 245 [some (.ref a0), none, some (.int x2), some (.long x3), none, none, some (.long x6), none, some (.int x8), some (.int x9), some (.int x10), none, none] [] 0 0 m := by
  unfold f_X9_readsOne_245 at hf
  refine vv_iconst 246 (v := 0) dX9_readsOne_245 rfl (by decide) ?_
  exact v_X9_readsOne_246 t_a0 hf

set_option maxHeartbeats 4000000 in
theorem v_X9_readsOne_196 {w : Wo} {K : Kn} {a0 : Nat} {x1 : Int32} {q : (Int32 × Mem)} (t_a0 : K a0 = some (.inl 8)) {m : Mem} {x2 : Int32} {x3 : Int64} {x5 : Int32} {x8 : Int32} {x9 : Int32} {x10 : Int32} {s0 : Int64} (hf : f_X9_readsOne_196 K a0 x1 m x2 x3 x5 x8 x9 x10 s0 = some q) : VV w RX9 cX9_readsOne 13 (some .int) rm_X9_readsOne false (QM w K (some (.int q.1)) q.2 0 0) K 196 [some (.ref a0), none, some (.int x2), some (.long x3), none, some (.int x5), none, none, some (.int x8), some (.int x9), some (.int x10), none, none] [.long s0] 0 0 m := by
  unfold f_X9_readsOne_196 at hf
  refine vv_lstore 198 (L' := [some (.ref a0), none, some (.int x2), some (.long x3), none, some (.int x5), some (.long s0), none, some (.int x8), some (.int x9), some (.int x10), none, none]) dX9_readsOne_196 rfl (Nat.le_of_ble_eq_true rfl) rfl ?_
  refine vv_iload 200 dX9_readsOne_198 rfl rfl ?_
  refine vv_if_eq 245 203 dX9_readsOne_200 rfl (by decide) (fun c1 => ?_) (fun c1 => ?_)
  · rw [if_pos c1] at hf
    exact VV.lle (v_X9_readsOne_245 t_a0 hf) (lle_s (lle_s (lle_s (lle_s (lle_s (lle_n (lle_s (lle_s (lle_s (lle_s (lle_s (lle_s (lle_s lle_nil)))))))))))))
  · rw [if_neg c1] at hf
    refine vv_aload_n 204 dX9_readsOne_203 rfl rfl ?_
    refine vv_lload 206 dX9_readsOne_204 rfl rfl ?_
    obtain ⟨q2, g_q2, hf⟩ := bind_s hf
    refine vv_callV 209 (st := []) (As := [.long s0]) (stk2 := [.int q2]) (cl2 := 0) (sl2 := 0) dX9_readsOne_206 rfl lk_RX9_162 w_1300 w_36 rfl t_a0 ⟨(Nat.le_of_ble_eq_true rfl), (Nat.le_of_ble_eq_true rfl)⟩ rfl rfl ⟨(Nat.le_of_ble_eq_true rfl), (Nat.le_of_ble_eq_true rfl)⟩ rfl (Nat.le_of_ble_eq_true rfl) rfl rfl rfl rfl (c_X9_wayOf t_a0 g_q2) ?_
    refine vv_iload 211 dX9_readsOne_209 rfl rfl ?_
    refine vv_icmp_ne 245 214 dX9_readsOne_211 rfl (by decide) (fun c3 => ?_) (fun c3 => ?_)
    · rw [if_pos c3] at hf
      refine vv_iload 216 dX9_readsOne_214 rfl rfl ?_
      refine vv_bipush 218 (v := 6) dX9_readsOne_216 rfl (by decide) ?_
      refine vv_icmp_eq 241 221 dX9_readsOne_218 rfl (by decide) (fun c4 => ?_) (fun c4 => ?_)
      · rw [if_pos c4] at hf
        exact VV.lle (v_X9_readsOne_241 t_a0 hf) (lle_s (lle_s (lle_s (lle_s (lle_s (lle_n (lle_s (lle_s (lle_s (lle_s (lle_s (lle_s (lle_s lle_nil)))))))))))))
      · rw [if_neg c4] at hf
        refine vv_iload 223 dX9_readsOne_221 rfl rfl ?_
        refine vv_lload 225 dX9_readsOne_223 rfl rfl ?_
        obtain ⟨q5, g_q5, hf⟩ := bind_s hf
        refine vv_callS 228 (st := [.int x9]) (As := [.long s0]) (stk2 := [.int q5, .int x9]) (cl2 := 0) (sl2 := 0) dX9_readsOne_225 rfl lk_RX9_146 w_1305 ⟨(Nat.le_of_ble_eq_true rfl), (Nat.le_of_ble_eq_true rfl)⟩ rfl rfl ⟨(Nat.le_of_ble_eq_true rfl), (Nat.le_of_ble_eq_true rfl)⟩ rfl (Nat.le_of_ble_eq_true rfl) rfl rfl rfl rfl (c_X9_aheadOf g_q5) ?_
        refine vv_icmp_ne 245 231 dX9_readsOne_228 rfl (by decide) (fun c6 => ?_) (fun c6 => ?_)
        · rw [if_pos c6] at hf
          refine vv_iload 233 dX9_readsOne_231 rfl rfl ?_
          refine vv_lload 235 dX9_readsOne_233 rfl rfl ?_
          obtain ⟨q7, g_q7, hf⟩ := bind_s hf
          refine vv_callS 238 (st := [.int x10]) (As := [.long s0]) (stk2 := [.int q7, .int x10]) (cl2 := 0) (sl2 := 0) dX9_readsOne_235 rfl lk_RX9_127 w_502 ⟨(Nat.le_of_ble_eq_true rfl), (Nat.le_of_ble_eq_true rfl)⟩ rfl rfl ⟨(Nat.le_of_ble_eq_true rfl), (Nat.le_of_ble_eq_true rfl)⟩ rfl (Nat.le_of_ble_eq_true rfl) rfl rfl rfl rfl (c_J13_numberOfTrailingZeros_95d88 g_q7) ?_
          refine vv_icmp_ne 245 241 dX9_readsOne_238 rfl (by decide) (fun c8 => ?_) (fun c8 => ?_)
          · rw [if_pos c8] at hf
            exact VV.lle (v_X9_readsOne_241 t_a0 hf) (lle_s (lle_s (lle_s (lle_s (lle_s (lle_n (lle_s (lle_s (lle_s (lle_s (lle_s (lle_s (lle_s lle_nil)))))))))))))
          · rw [if_neg c8] at hf
            exact VV.lle (v_X9_readsOne_245 t_a0 hf) (lle_s (lle_s (lle_s (lle_s (lle_s (lle_n (lle_s (lle_s (lle_s (lle_s (lle_s (lle_s (lle_s lle_nil)))))))))))))
        · rw [if_neg c6] at hf
          exact VV.lle (v_X9_readsOne_245 t_a0 hf) (lle_s (lle_s (lle_s (lle_s (lle_s (lle_n (lle_s (lle_s (lle_s (lle_s (lle_s (lle_s (lle_s lle_nil)))))))))))))
    · rw [if_neg c3] at hf
      exact VV.lle (v_X9_readsOne_245 t_a0 hf) (lle_s (lle_s (lle_s (lle_s (lle_s (lle_n (lle_s (lle_s (lle_s (lle_s (lle_s (lle_s (lle_s lle_nil)))))))))))))

set_option maxHeartbeats 4000000 in
theorem v_X9_readsOne_182 {w : Wo} {K : Kn} {a0 : Nat} {x1 : Int32} {q : (Int32 × Mem)} (t_a0 : K a0 = some (.inl 8)) {m : Mem} {x2 : Int32} {x3 : Int64} {x5 : Int32} {x6 : Int64} {x8 : Int32} {x9 : Int32} {x10 : Int32} (hf : f_X9_readsOne_182 K a0 x1 m x2 x3 x5 x6 x8 x9 x10 = some q) : VV w RX9 cX9_readsOne 13 (some .int) rm_X9_readsOne false (QM w K (some (.int q.1)) q.2 0 0) K 182 [some (.ref a0), none, some (.int x2), some (.long x3), none, some (.int x5), some (.long x6), none, some (.int x8), some (.int x9), some (.int x10), none, none] [] 0 0 m := by
  unfold f_X9_readsOne_182 at hf
  refine vv_iload 184 dX9_readsOne_182 rfl rfl ?_
  refine vv_if_ge 191 187 dX9_readsOne_184 rfl (by decide) (fun c1 => ?_) (fun c1 => ?_)
  · rw [if_pos c1] at hf
    refine vv_lload 193 dX9_readsOne_191 rfl rfl ?_
    refine vv_iload 195 dX9_readsOne_193 rfl rfl ?_
    refine vv_lshl 196 dX9_readsOne_195 rfl ?_
    exact VV.lle (v_X9_readsOne_196 t_a0 hf) (lle_s (lle_s (lle_s (lle_s (lle_s (lle_s (lle_n (lle_s (lle_s (lle_s (lle_s (lle_s (lle_s lle_nil)))))))))))))
  · rw [if_neg c1] at hf
    refine vv_lconst 188 (v := 0) dX9_readsOne_187 rfl (by decide) ?_
    refine vv_goto 196 dX9_readsOne_188 (by decide) ?_
    exact VV.lle (v_X9_readsOne_196 t_a0 hf) (lle_s (lle_s (lle_s (lle_s (lle_s (lle_s (lle_n (lle_s (lle_s (lle_s (lle_s (lle_s (lle_s lle_nil)))))))))))))

set_option maxHeartbeats 4000000 in
theorem v_X9_readsOne_108 {w : Wo} {K : Kn} {a0 : Nat} {x1 : Int32} {q : (Int32 × Mem)} (t_a0 : K a0 = some (.inl 8)) {m : Mem} {x2 : Int32} {x3 : Int64} {x5 : Int32} {x6 : Int64} {x9 : Int32} {x10 : Int32} {s0 : Int32} (hf : f_X9_readsOne_108 K a0 x1 m x2 x3 x5 x6 x9 x10 s0 = some q) : VV w RX9 cX9_readsOne 13 (some .int) rm_X9_readsOne false (QM w K (some (.int q.1)) q.2 0 0) K 108 [some (.ref a0), some (.int x1), some (.int x2), some (.long x3), none, some (.int x5), some (.long x6), none, none, some (.int x9), some (.int x10), none, none] [.int s0] 0 0 m := by
  unfold f_X9_readsOne_108 at hf
  refine vv_istore 110 (L' := [some (.ref a0), some (.int x1), some (.int x2), some (.long x3), none, some (.int x5), some (.long x6), none, some (.int s0), some (.int x9), some (.int x10), none, none]) dX9_readsOne_108 rfl (Nat.le_of_ble_eq_true rfl) rfl ?_
  refine vv_iload 112 dX9_readsOne_110 rfl rfl ?_
  refine vv_bipush 114 (v := 7) dX9_readsOne_112 rfl (by decide) ?_
  refine vv_icmp_ne 160 117 dX9_readsOne_114 rfl (by decide) (fun c1 => ?_) (fun c1 => ?_)
  · rw [if_pos c1] at hf
    refine vv_aload_n 118 dX9_readsOne_117 rfl rfl ?_
    refine vv_iload_n 119 dX9_readsOne_118 rfl rfl ?_
    refine vv_iconst 120 (v := 5) dX9_readsOne_119 rfl (by decide) ?_
    obtain ⟨q2, g_q2, hf⟩ := bind_s hf
    refine vv_callV 123 (st := []) (As := [.int x1, .int (5 : Int32)]) (stk2 := [.long q2.1]) (cl2 := 0) (sl2 := 0) dX9_readsOne_120 rfl lk_RX9_215 w_1276 w_34 rfl t_a0 ⟨(Nat.le_of_ble_eq_true rfl), (Nat.le_of_ble_eq_true rfl)⟩ rfl rfl ⟨(Nat.le_of_ble_eq_true rfl), (Nat.le_of_ble_eq_true rfl)⟩ rfl (Nat.le_of_ble_eq_true rfl) rfl rfl rfl rfl (c_X9_gets t_a0 g_q2) ?_
    refine vv_l2i 124 dX9_readsOne_123 rfl ?_
    obtain ⟨z3, e_z3, hf⟩ := bd_s hf
    refine vv_istoreE (q := 126) (v := z3) (L' := [some (.ref a0), some (.int x1), some (.int x2), some (.long x3), none, some (.int x5), some (.long x6), none, some (.int s0), some (.int z3), some (.int x10), none, none]) e_z3 dX9_readsOne_124 rfl (Nat.le_of_ble_eq_true rfl) rfl ?_
    refine vv_aload_n 127 dX9_readsOne_126 rfl rfl ?_
    refine vv_iload_n 128 dX9_readsOne_127 rfl rfl ?_
    refine vv_bipush 130 (v := 6) dX9_readsOne_128 rfl (by decide) ?_
    obtain ⟨q4, g_q4, hf⟩ := bind_s hf
    refine vv_callV 133 (st := []) (As := [.int x1, .int (6 : Int32)]) (stk2 := [.long q4.1]) (cl2 := 0) (sl2 := 0) dX9_readsOne_130 rfl lk_RX9_215 w_1276 w_34 rfl t_a0 ⟨(Nat.le_of_ble_eq_true rfl), (Nat.le_of_ble_eq_true rfl)⟩ rfl rfl ⟨(Nat.le_of_ble_eq_true rfl), (Nat.le_of_ble_eq_true rfl)⟩ rfl (Nat.le_of_ble_eq_true rfl) rfl rfl rfl rfl (c_X9_gets t_a0 g_q4) ?_
    refine vv_l2i 134 dX9_readsOne_133 rfl ?_
    refine vv_iconst 135 (v := 1) dX9_readsOne_134 rfl (by decide) ?_
    refine vv_iadd 136 dX9_readsOne_135 rfl ?_
    obtain ⟨z5, e_z5, hf⟩ := bd_s hf
    refine vv_istoreE (q := 138) (v := z5) (L' := [some (.ref a0), some (.int x1), some (.int x2), some (.long x3), none, some (.int x5), some (.long x6), none, some (.int s0), some (.int z3), some (.int x10), some (.int z5), none]) e_z5 dX9_readsOne_136 rfl (Nat.le_of_ble_eq_true rfl) rfl ?_
    refine vv_bipush 140 (v := 64) dX9_readsOne_138 rfl (by decide) ?_
    refine vv_iload 142 dX9_readsOne_140 rfl rfl ?_
    refine vv_isub 143 dX9_readsOne_142 rfl ?_
    refine vv_iload 145 dX9_readsOne_143 rfl rfl ?_
    refine vv_isub 146 dX9_readsOne_145 rfl ?_
    obtain ⟨z6, e_z6, hf⟩ := bd_s hf
    refine vv_istoreE (q := 148) (v := z6) (L' := [some (.ref a0), some (.int x1), some (.int x2), some (.long x3), none, some (.int x5), some (.long x6), none, some (.int s0), some (.int z3), some (.int z6), some (.int z5), none]) e_z6 dX9_readsOne_146 rfl (Nat.le_of_ble_eq_true rfl) rfl ?_
    refine vv_aload_n 149 dX9_readsOne_148 rfl rfl ?_
    refine vv_iload_n 150 dX9_readsOne_149 rfl rfl ?_
    refine vv_iload 152 dX9_readsOne_150 rfl rfl ?_
    obtain ⟨q7, g_q7, hf⟩ := bind_s hf
    refine vv_callV 155 (st := []) (As := [.int x1, .int z5]) (stk2 := [.long q7.1]) (cl2 := 0) (sl2 := 0) dX9_readsOne_152 rfl lk_RX9_215 w_1276 w_34 rfl t_a0 ⟨(Nat.le_of_ble_eq_true rfl), (Nat.le_of_ble_eq_true rfl)⟩ rfl rfl ⟨(Nat.le_of_ble_eq_true rfl), (Nat.le_of_ble_eq_true rfl)⟩ rfl (Nat.le_of_ble_eq_true rfl) rfl rfl rfl rfl (c_X9_gets t_a0 g_q7) ?_
    obtain ⟨z8, e_z8, hf⟩ := bd_s hf
    refine vv_lstoreE (q := 157) (v := z8) (L' := [some (.ref a0), some (.int x1), some (.int x2), some (.long x3), none, some (.int x5), some (.long z8), none, some (.int s0), some (.int z3), some (.int z6), some (.int z5), none]) e_z8 dX9_readsOne_155 rfl (Nat.le_of_ble_eq_true rfl) rfl ?_
    refine vv_goto 182 dX9_readsOne_157 (by decide) ?_
    exact VV.lle (v_X9_readsOne_182 t_a0 hf) (lle_s (lle_n (lle_s (lle_s (lle_s (lle_s (lle_s (lle_s (lle_s (lle_s (lle_s (lle_n (lle_s lle_nil)))))))))))))
  · rw [if_neg c1] at hf
    refine vv_aload_n 161 dX9_readsOne_160 rfl rfl ?_
    refine gf_RX9_130 164 dX9_readsOne_161 rfl t_a0 ?_
    refine vv_if_eq 182 167 dX9_readsOne_164 rfl (by decide) (fun c9 => ?_) (fun c9 => ?_)
    · rw [if_pos c9] at hf
      exact VV.lle (v_X9_readsOne_182 t_a0 hf) (lle_s (lle_n (lle_s (lle_s (lle_s (lle_s (lle_s (lle_s (lle_s (lle_s (lle_s (lle_s (lle_s lle_nil)))))))))))))
    · rw [if_neg c9] at hf
      refine vv_aload_n 168 dX9_readsOne_167 rfl rfl ?_
      refine vv_iload_n 169 dX9_readsOne_168 rfl rfl ?_
      refine vv_bipush 171 (v := 64) dX9_readsOne_169 rfl (by decide) ?_
      refine vv_iload 173 dX9_readsOne_171 rfl rfl ?_
      refine vv_isub 174 dX9_readsOne_173 rfl ?_
      refine vv_iload 176 dX9_readsOne_174 rfl rfl ?_
      refine vv_isub 177 dX9_readsOne_176 rfl ?_
      obtain ⟨q10, g_q10, hf⟩ := bind_s hf
      refine vv_callV 180 (st := []) (As := [.int x1, .int (((64 : Int32) - x9) - x10)]) (stk2 := [.long q10.1]) (cl2 := 0) (sl2 := 0) dX9_readsOne_177 rfl lk_RX9_215 w_1276 w_34 rfl t_a0 ⟨(Nat.le_of_ble_eq_true rfl), (Nat.le_of_ble_eq_true rfl)⟩ rfl rfl ⟨(Nat.le_of_ble_eq_true rfl), (Nat.le_of_ble_eq_true rfl)⟩ rfl (Nat.le_of_ble_eq_true rfl) rfl rfl rfl rfl (c_X9_gets t_a0 g_q10) ?_
      obtain ⟨z11, e_z11, hf⟩ := bd_s hf
      refine vv_lstoreE (q := 182) (v := z11) (L' := [some (.ref a0), some (.int x1), some (.int x2), some (.long x3), none, some (.int x5), some (.long z11), none, some (.int s0), some (.int x9), some (.int x10), none, none]) e_z11 dX9_readsOne_180 rfl (Nat.le_of_ble_eq_true rfl) rfl ?_
      exact VV.lle (v_X9_readsOne_182 t_a0 hf) (lle_s (lle_n (lle_s (lle_s (lle_s (lle_s (lle_s (lle_s (lle_s (lle_s (lle_s (lle_s (lle_s lle_nil)))))))))))))

set_option maxHeartbeats 4000000 in
theorem v_X9_readsOne_59 {w : Wo} {K : Kn} {a0 : Nat} {x1 : Int32} {q : (Int32 × Mem)} (t_a0 : K a0 = some (.inl 8)) {m : Mem} {x2 : Int32} {x3 : Int64} {s0 : Int32} (hf : f_X9_readsOne_59 K a0 x1 m x2 x3 s0 = some q) : VV w RX9 cX9_readsOne 13 (some .int) rm_X9_readsOne false (QM w K (some (.int q.1)) q.2 0 0) K 59 [some (.ref a0), some (.int x1), some (.int x2), some (.long x3), none, none, none, none, none, none, none, none, none] [.int s0] 0 0 m := by
  unfold f_X9_readsOne_59 at hf
  refine vv_istore 61 (L' := [some (.ref a0), some (.int x1), some (.int x2), some (.long x3), none, some (.int s0), none, none, none, none, none, none, none]) dX9_readsOne_59 rfl (Nat.le_of_ble_eq_true rfl) rfl ?_
  refine vv_lconst 62 (v := 0) dX9_readsOne_61 rfl (by decide) ?_
  refine vv_lstore 64 (L' := [some (.ref a0), some (.int x1), some (.int x2), some (.long x3), none, some (.int s0), some (.long (0 : Int64)), none, none, none, none, none, none]) dX9_readsOne_62 rfl (Nat.le_of_ble_eq_true rfl) rfl ?_
  refine vv_iconst 65 (v := 5) dX9_readsOne_64 rfl (by decide) ?_
  refine vv_istore 67 (L' := [some (.ref a0), some (.int x1), some (.int x2), some (.long x3), none, some (.int s0), some (.long (0 : Int64)), none, some (.int (5 : Int32)), none, none, none, none]) dX9_readsOne_65 rfl (Nat.le_of_ble_eq_true rfl) rfl ?_
  refine vv_aload_n 68 dX9_readsOne_67 rfl rfl ?_
  refine gf_RX9_134 71 dX9_readsOne_68 rfl t_a0 ?_
  obtain ⟨z1, e_z1, hf⟩ := bd_s hf
  refine vv_istoreE (q := 73) (v := z1) (L' := [some (.ref a0), some (.int x1), some (.int x2), some (.long x3), none, some (.int s0), some (.long (0 : Int64)), none, some (.int (5 : Int32)), some (.int z1), none, none, none]) e_z1 dX9_readsOne_71 rfl (Nat.le_of_ble_eq_true rfl) rfl ?_
  refine vv_aload_n 74 dX9_readsOne_73 rfl rfl ?_
  refine gf_RX9_138 77 dX9_readsOne_74 rfl t_a0 ?_
  obtain ⟨z2, e_z2, hf⟩ := bd_s hf
  refine vv_istoreE (q := 79) (v := z2) (L' := [some (.ref a0), some (.int x1), some (.int x2), some (.long x3), none, some (.int s0), some (.long (0 : Int64)), none, some (.int (5 : Int32)), some (.int z1), some (.int z2), none, none]) e_z2 dX9_readsOne_77 rfl (Nat.le_of_ble_eq_true rfl) rfl ?_
  refine vv_aload_n 80 dX9_readsOne_79 rfl rfl ?_
  refine vv_iload_n 81 dX9_readsOne_80 rfl rfl ?_
  refine vv_iconst 82 (v := 1) dX9_readsOne_81 rfl (by decide) ?_
  obtain ⟨q3, g_q3, hf⟩ := bind_s hf
  refine vv_callV 85 (st := []) (As := [.int x1, .int (1 : Int32)]) (stk2 := [.long q3.1]) (cl2 := 0) (sl2 := 0) dX9_readsOne_82 rfl lk_RX9_215 w_1276 w_34 rfl t_a0 ⟨(Nat.le_of_ble_eq_true rfl), (Nat.le_of_ble_eq_true rfl)⟩ rfl rfl ⟨(Nat.le_of_ble_eq_true rfl), (Nat.le_of_ble_eq_true rfl)⟩ rfl (Nat.le_of_ble_eq_true rfl) rfl rfl rfl rfl (c_X9_gets t_a0 g_q3) ?_
  refine vv_lconst 86 (v := 1) dX9_readsOne_85 rfl (by decide) ?_
  refine vv_lcmp 87 dX9_readsOne_86 rfl ?_
  refine vv_if_ne 248 90 dX9_readsOne_87 rfl (by decide) (fun c4 => ?_) (fun c4 => ?_)
  · rw [if_pos c4] at hf
    refine vv_aload_n 91 dX9_readsOne_90 rfl rfl ?_
    refine vv_iload_n 92 dX9_readsOne_91 rfl rfl ?_
    refine vv_iconst 93 (v := 1) dX9_readsOne_92 rfl (by decide) ?_
    obtain ⟨q5, g_q5, hf⟩ := bind_s hf
    refine vv_callV 96 (st := []) (As := [.int x1, .int (1 : Int32)]) (stk2 := [.long q5.1]) (cl2 := 0) (sl2 := 0) dX9_readsOne_93 rfl lk_RX9_215 w_1276 w_34 rfl t_a0 ⟨(Nat.le_of_ble_eq_true rfl), (Nat.le_of_ble_eq_true rfl)⟩ rfl rfl ⟨(Nat.le_of_ble_eq_true rfl), (Nat.le_of_ble_eq_true rfl)⟩ rfl (Nat.le_of_ble_eq_true rfl) rfl rfl rfl rfl (c_X9_gets t_a0 g_q5) ?_
    refine vv_lconst 97 (v := 0) dX9_readsOne_96 rfl (by decide) ?_
    refine vv_lcmp 98 dX9_readsOne_97 rfl ?_
    refine vv_if_ne 106 101 dX9_readsOne_98 rfl (by decide) (fun c6 => ?_) (fun c6 => ?_)
    · rw [if_pos c6] at hf
      refine vv_bipush 103 (v := 6) dX9_readsOne_101 rfl (by decide) ?_
      refine vv_goto 108 dX9_readsOne_103 (by decide) ?_
      exact VV.lle (v_X9_readsOne_108 t_a0 hf) (lle_s (lle_s (lle_s (lle_s (lle_s (lle_s (lle_s (lle_s (lle_n (lle_s (lle_s (lle_s (lle_s lle_nil)))))))))))))
    · rw [if_neg c6] at hf
      refine vv_bipush 108 (v := 7) dX9_readsOne_106 rfl (by decide) ?_
      exact VV.lle (v_X9_readsOne_108 t_a0 hf) (lle_s (lle_s (lle_s (lle_s (lle_s (lle_s (lle_s (lle_s (lle_n (lle_s (lle_s (lle_s (lle_s lle_nil)))))))))))))
  · rw [if_neg c4] at hf
    exact VV.lle (v_X9_readsOne_248 t_a0 hf) (lle_s (lle_n (lle_s (lle_s (lle_s (lle_s (lle_s (lle_s (lle_s (lle_s (lle_s (lle_s (lle_s lle_nil)))))))))))))

set_option maxHeartbeats 4000000 in
theorem v_X9_readsOne_45 {w : Wo} {K : Kn} {a0 : Nat} {x1 : Int32} {q : (Int32 × Mem)} (t_a0 : K a0 = some (.inl 8)) {m : Mem} {x2 : Int32} {s0 : Int64} (hf : f_X9_readsOne_45 K a0 x1 m x2 s0 = some q) : VV w RX9 cX9_readsOne 13 (some .int) rm_X9_readsOne false (QM w K (some (.int q.1)) q.2 0 0) K 45 [some (.ref a0), some (.int x1), some (.int x2), none, none, none, none, none, none, none, none, none, none] [.long s0] 0 0 m := by
  unfold f_X9_readsOne_45 at hf
  refine vv_lstore_n 46 (L' := [some (.ref a0), some (.int x1), some (.int x2), some (.long s0), none, none, none, none, none, none, none, none, none]) dX9_readsOne_45 rfl (Nat.le_of_ble_eq_true rfl) rfl ?_
  refine vv_lload_n 47 dX9_readsOne_46 rfl rfl ?_
  obtain ⟨q1, g_q1, hf⟩ := bind_s hf
  refine vv_callS 50 (st := []) (As := [.long s0]) (stk2 := [.int q1]) (cl2 := 0) (sl2 := 0) dX9_readsOne_47 rfl lk_RX9_156 w_1293 ⟨(Nat.le_of_ble_eq_true rfl), (Nat.le_of_ble_eq_true rfl)⟩ rfl rfl ⟨(Nat.le_of_ble_eq_true rfl), (Nat.le_of_ble_eq_true rfl)⟩ rfl (Nat.le_of_ble_eq_true rfl) rfl rfl rfl rfl (c_X9_classOf g_q1) ?_
  refine vv_iload_n 51 dX9_readsOne_50 rfl rfl ?_
  refine vv_icmp_ne 58 54 dX9_readsOne_51 rfl (by decide) (fun c2 => ?_) (fun c2 => ?_)
  · rw [if_pos c2] at hf
    refine vv_iconst 55 (v := 1) dX9_readsOne_54 rfl (by decide) ?_
    refine vv_goto 59 dX9_readsOne_55 (by decide) ?_
    exact v_X9_readsOne_59 t_a0 hf
  · rw [if_neg c2] at hf
    refine vv_iconst 59 (v := 0) dX9_readsOne_58 rfl (by decide) ?_
    exact v_X9_readsOne_59 t_a0 hf

set_option maxHeartbeats 4000000 in
theorem v_X9_readsOne_24 {w : Wo} {K : Kn} {a0 : Nat} {x1 : Int32} {q : (Int32 × Mem)} (t_a0 : K a0 = some (.inl 8)) {m : Mem} {x2 : Int32} (hf : f_X9_readsOne_24 K a0 x1 m x2 = some q) : VV w RX9 cX9_readsOne 13 (some .int) rm_X9_readsOne false (QM w K (some (.int q.1)) q.2 0 0) K 24 [some (.ref a0), some (.int x1), some (.int x2), none, none, none, none, none, none, none, none, none, none] [] 0 0 m := by
  unfold f_X9_readsOne_24 at hf
  refine vv_iload_n 25 dX9_readsOne_24 rfl rfl ?_
  refine vv_if_ne 32 28 dX9_readsOne_25 rfl (by decide) (fun c1 => ?_) (fun c1 => ?_)
  · rw [if_pos c1] at hf
    refine vv_lconst 29 (v := 0) dX9_readsOne_28 rfl (by decide) ?_
    refine vv_goto 45 dX9_readsOne_29 (by decide) ?_
    exact v_X9_readsOne_45 t_a0 hf
  · rw [if_neg c1] at hf
    refine vv_aload_n 33 dX9_readsOne_32 rfl rfl ?_
    refine vv_iload_n 34 dX9_readsOne_33 rfl rfl ?_
    refine vv_iload_n 35 dX9_readsOne_34 rfl rfl ?_
    obtain ⟨q2, g_q2, hf⟩ := bind_s hf
    refine vv_callS 38 (st := [.int x1, .ref a0]) (As := [.int x2]) (stk2 := [.int q2, .int x1, .ref a0]) (cl2 := 0) (sl2 := 0) dX9_readsOne_35 rfl lk_RX9_169 w_1283 ⟨(Nat.le_of_ble_eq_true rfl), (Nat.le_of_ble_eq_true rfl)⟩ rfl rfl ⟨(Nat.le_of_ble_eq_true rfl), (Nat.le_of_ble_eq_true rfl)⟩ rfl (Nat.le_of_ble_eq_true rfl) rfl rfl rfl rfl (c_X9_wideOf g_q2) ?_
    obtain ⟨q3, g_q3, hf⟩ := bind_s hf
    refine vv_callV 41 (st := []) (As := [.int x1, .int q2]) (stk2 := [.long q3.1]) (cl2 := 0) (sl2 := 0) dX9_readsOne_38 rfl lk_RX9_215 w_1276 w_34 rfl t_a0 ⟨(Nat.le_of_ble_eq_true rfl), (Nat.le_of_ble_eq_true rfl)⟩ rfl rfl ⟨(Nat.le_of_ble_eq_true rfl), (Nat.le_of_ble_eq_true rfl)⟩ rfl (Nat.le_of_ble_eq_true rfl) rfl rfl rfl rfl (c_X9_gets t_a0 g_q3) ?_
    refine vv_iload_n 42 dX9_readsOne_41 rfl rfl ?_
    obtain ⟨q4, g_q4, hf⟩ := bind_s hf
    refine vv_callS 45 (st := []) (As := [.long q3.1, .int x2]) (stk2 := [.long q4]) (cl2 := 0) (sl2 := 0) dX9_readsOne_42 rfl lk_RX9_219 w_1286 ⟨(Nat.le_of_ble_eq_true rfl), (Nat.le_of_ble_eq_true rfl)⟩ rfl rfl ⟨(Nat.le_of_ble_eq_true rfl), (Nat.le_of_ble_eq_true rfl)⟩ rfl (Nat.le_of_ble_eq_true rfl) rfl rfl rfl rfl (c_X9_signed g_q4) ?_
    exact v_X9_readsOne_45 t_a0 hf

set_option maxHeartbeats 4000000 in
theorem v_X9_readsOne_2B {w : Wo} {K : Kn} {a0 : Nat} {x1 : Int32} {q : (Int32 × Mem)} (t_a0 : K a0 = some (.inl 8)) (k2 : Mem → Int32 → Option (Int32 × Mem)) (hk2 : ∀ (m : Mem) (x2 : Int32), k2 m x2 = some q → VV w RX9 cX9_readsOne 13 (some .int) rm_X9_readsOne false (QM w K (some (.int q.1)) q.2 0 0) K 2 [some (.ref a0), some (.int x1), some (.int x2), none, none, none, none, none, none, none, none, none, none] [] 0 0 m) {m : Mem} {x2 : Int32} (hf : f_X9_readsOne_2B K a0 x1 k2 m x2 = some q) : VV w RX9 cX9_readsOne 13 (some .int) rm_X9_readsOne false (QM w K (some (.int q.1)) q.2 0 0) K 2 [some (.ref a0), some (.int x1), some (.int x2), none, none, none, none, none, none, none, none, none, none] [] 0 0 m := by
  unfold f_X9_readsOne_2B at hf
  refine vv_iload_n 3 dX9_readsOne_2 rfl rfl ?_
  refine vv_iconst 4 (v := 4) dX9_readsOne_3 rfl (by decide) ?_
  refine vv_icmp_ge 24 7 dX9_readsOne_4 rfl (by decide) (fun c1 => ?_) (fun c1 => ?_)
  · rw [if_pos c1] at hf
    exact v_X9_readsOne_24 t_a0 hf
  · rw [if_neg c1] at hf
    refine vv_aload_n 8 dX9_readsOne_7 rfl rfl ?_
    refine vv_iload_n 9 dX9_readsOne_8 rfl rfl ?_
    refine vv_iconst 10 (v := 1) dX9_readsOne_9 rfl (by decide) ?_
    obtain ⟨q2, g_q2, hf⟩ := bind_s hf
    refine vv_callV 13 (st := []) (As := [.int x1, .int (1 : Int32)]) (stk2 := [.long q2.1]) (cl2 := 0) (sl2 := 0) dX9_readsOne_10 rfl lk_RX9_215 w_1276 w_34 rfl t_a0 ⟨(Nat.le_of_ble_eq_true rfl), (Nat.le_of_ble_eq_true rfl)⟩ rfl rfl ⟨(Nat.le_of_ble_eq_true rfl), (Nat.le_of_ble_eq_true rfl)⟩ rfl (Nat.le_of_ble_eq_true rfl) rfl rfl rfl rfl (c_X9_gets t_a0 g_q2) ?_
    refine vv_lconst 14 (v := 1) dX9_readsOne_13 rfl (by decide) ?_
    refine vv_lcmp 15 dX9_readsOne_14 rfl ?_
    refine vv_if_ne 24 18 dX9_readsOne_15 rfl (by decide) (fun c3 => ?_) (fun c3 => ?_)
    · rw [if_pos c3] at hf
      obtain ⟨z4, e_z4, hf⟩ := bd_s hf
      refine vv_iincE (q := 21) (v := z4) (c := 1) (L' := [some (.ref a0), some (.int x1), some (.int z4), none, none, none, none, none, none, none, none, none, none]) e_z4 dX9_readsOne_18 rfl rfl (by decide) (Nat.le_of_ble_eq_true rfl) rfl ?_
      refine vv_goto 2 dX9_readsOne_21 (by decide) ?_
      exact hk2 _ _ hf
    · rw [if_neg c3] at hf
      exact v_X9_readsOne_24 t_a0 hf

theorem v_X9_readsOne_2 {w : Wo} {K : Kn} {a0 : Nat} {x1 : Int32} {q : (Int32 × Mem)} (t_a0 : K a0 = some (.inl 8)) : ∀ (n : Nat) (m : Mem) (x2 : Int32), f_X9_readsOne_2 K a0 x1 n m x2 = some q → VV w RX9 cX9_readsOne 13 (some .int) rm_X9_readsOne false (QM w K (some (.int q.1)) q.2 0 0) K 2 [some (.ref a0), some (.int x1), some (.int x2), none, none, none, none, none, none, none, none, none, none] [] 0 0 m := by
  intro n
  induction n with
  | zero => intro m x2 hf; cases hf
  | succ n ih => intro m x2 hf; exact v_X9_readsOne_2B (a0 := a0) (x1 := x1) t_a0 (f_X9_readsOne_2 K a0 x1 n) ih hf

set_option maxHeartbeats 4000000 in
theorem v_X9_readsOne_0 {w : Wo} {K : Kn} {a0 : Nat} {x1 : Int32} {q : (Int32 × Mem)} (t_a0 : K a0 = some (.inl 8)) {m : Mem} (hf : f_X9_readsOne K a0 x1 m = some q) : VV w RX9 cX9_readsOne 13 (some .int) rm_X9_readsOne false (QM w K (some (.int q.1)) q.2 0 0) K 0 [some (.ref a0), some (.int x1), none, none, none, none, none, none, none, none, none, none, none] [] 0 0 m := by
  unfold f_X9_readsOne at hf
  refine vv_iconst 1 (v := 0) dX9_readsOne_0 rfl (by decide) ?_
  refine vv_istore_n 2 (L' := [some (.ref a0), some (.int x1), some (.int (0 : Int32)), none, none, none, none, none, none, none, none, none, none]) dX9_readsOne_1 rfl (Nat.le_of_ble_eq_true rfl) rfl ?_
  exact v_X9_readsOne_2 t_a0 FU _ _ hf

theorem c_X9_readsOne {w : Wo} {K : Kn} {a0 : Nat} {x1 : Int32} {q : (Int32 × Mem)} {m : Mem} (t_a0 : K a0 = some (.inl 8)) (hf : F_X9_readsOne K m a0 x1 = some q) : MM w K K yX9_readsOne cX9_readsOne 13 (some .int) rm_X9_readsOne [.ref a0, .int x1] m (some (.int q.1)) q.2 0 0 :=
  mm_of (ini := false) (n := 11) (plainFor_of_name (by decide)) rfl (fun h => by first | rfl | cases h) (Nat.le_of_ble_eq_true rfl) rfl (v_X9_readsOne_0 t_a0 hf)

set_option maxHeartbeats 4000000 in
theorem v_X9_readsAll_73 {w : Wo} {K : Kn} {a0 : Nat} {x1 : Int32} {q : Mem} (t_a0 : K a0 = some (.inl 8)) {m : Mem} (hf : f_X9_readsAll_73 K a0 x1 m = some q) : VV w RX9 cX9_readsAll 6 none rm_X9_readsAll false (QM w K none q 0 0) K 73 [some (.ref a0), none, none, none, none, none] [] 0 0 m := by
  unfold f_X9_readsAll_73 at hf
  refine vv_aload_n 74 dX9_readsAll_73 rfl rfl ?_
  refine vv_iconst 75 (v := 1) dX9_readsAll_74 rfl (by decide) ?_
  refine vv_iconst 76 (v := (-1)) dX9_readsAll_75 rfl (by decide) ?_
  obtain ⟨q1, g_q1, hf⟩ := bind_s hf
  refine vv_callV 79 (st := []) (As := [.int (1 : Int32), .int (-1 : Int32)]) (stk2 := []) (cl2 := 0) (sl2 := 0) dX9_readsAll_76 rfl lk_RX9_226 w_1244 w_26 rfl t_a0 ⟨(Nat.le_of_ble_eq_true rfl), (Nat.le_of_ble_eq_true rfl)⟩ rfl rfl ⟨(Nat.le_of_ble_eq_true rfl), (Nat.le_of_ble_eq_true rfl)⟩ rfl (Nat.le_of_ble_eq_true rfl) rfl rfl rfl rfl (c_X9_faults t_a0 g_q1) ?_
  obtain rfl := Option.some.inj hf
  exact vv_vret dX9_readsAll_79 rfl

set_option maxHeartbeats 4000000 in
theorem v_X9_readsAll_168 {w : Wo} {K : Kn} {a0 : Nat} {x1 : Int32} {q : Mem} (t_a0 : K a0 = some (.inl 8)) {m : Mem} {sa0 : Nat} {s1 : Int32} (t_sa0 : K sa0 = some (.inl 8)) (hf : f_X9_readsAll_168 K a0 x1 m sa0 s1 = some q) : VV w RX9 cX9_readsAll 6 none rm_X9_readsAll false (QM w K none q 0 0) K 168 [none, none, none, none, none, none] [.int s1, .ref sa0] 0 0 m := by
  unfold f_X9_readsAll_168 at hf
  refine vv_iconst 169 (v := 0) dX9_readsAll_168 rfl (by decide) ?_
  obtain ⟨q1, g_q1, hf⟩ := bind_s hf
  refine vv_callV 172 (st := []) (As := [.int s1, .int (0 : Int32)]) (stk2 := []) (cl2 := 0) (sl2 := 0) dX9_readsAll_169 rfl lk_RX9_226 w_1244 w_26 rfl t_sa0 ⟨(Nat.le_of_ble_eq_true rfl), (Nat.le_of_ble_eq_true rfl)⟩ rfl rfl ⟨(Nat.le_of_ble_eq_true rfl), (Nat.le_of_ble_eq_true rfl)⟩ rfl (Nat.le_of_ble_eq_true rfl) rfl rfl rfl rfl (c_X9_faults t_sa0 g_q1) ?_
  obtain rfl := Option.some.inj hf
  exact vv_vret dX9_readsAll_172 rfl

set_option maxHeartbeats 4000000 in
theorem v_X9_readsAll_158 {w : Wo} {K : Kn} {a0 : Nat} {x1 : Int32} {q : Mem} (t_a0 : K a0 = some (.inl 8)) {m : Mem} {x3 : Int32} (hf : f_X9_readsAll_158 K a0 x1 m x3 = some q) : VV w RX9 cX9_readsAll 6 none rm_X9_readsAll false (QM w K none q 0 0) K 158 [some (.ref a0), none, none, some (.int x3), none, none] [] 0 0 m := by
  unfold f_X9_readsAll_158 at hf
  refine vv_aload_n 159 dX9_readsAll_158 rfl rfl ?_
  refine vv_iload_n 160 dX9_readsAll_159 rfl rfl ?_
  refine vv_if_ne 167 163 dX9_readsAll_160 rfl (by decide) (fun c1 => ?_) (fun c1 => ?_)
  · rw [if_pos c1] at hf
    refine vv_iconst 164 (v := 5) dX9_readsAll_163 rfl (by decide) ?_
    refine vv_goto 168 dX9_readsAll_164 (by decide) ?_
    exact VV.lle (v_X9_readsAll_168 t_a0 t_a0 hf) (lle_n (lle_s (lle_s (lle_n (lle_s (lle_s lle_nil))))))
  · rw [if_neg c1] at hf
    refine vv_iconst 168 (v := 3) dX9_readsAll_167 rfl (by decide) ?_
    exact VV.lle (v_X9_readsAll_168 t_a0 t_a0 hf) (lle_n (lle_s (lle_s (lle_n (lle_s (lle_s lle_nil))))))

set_option maxHeartbeats 4000000 in
theorem v_X9_readsAll_293 {w : Wo} {K : Kn} {a0 : Nat} {x1 : Int32} {q : Mem} (t_a0 : K a0 = some (.inl 8)) (k263 : Mem → Int32 → Int32 → Option Mem) (hk263 : ∀ (m : Mem) (x4 : Int32) (x5 : Int32), k263 m x4 x5 = some q → VV w RX9 cX9_readsAll 6 none rm_X9_readsAll false (QM w K none q 0 0) K 263 [some (.ref a0), some (.int x1), none, none, some (.int x4), some (.int x5)] [] 0 0 m) {m : Mem} {x5 : Int32} {s0 : Int32} (hf : f_X9_readsAll_293 K a0 x1 k263 m x5 s0 = some q) : VV w RX9 cX9_readsAll 6 none rm_X9_readsAll false (QM w K none q 0 0) K 293 [some (.ref a0), some (.int x1), none, none, none, some (.int x5)] [.int s0] 0 0 m := by
  unfold f_X9_readsAll_293 at hf
  refine vv_istore 295 (L' := [some (.ref a0), some (.int x1), none, none, some (.int s0), some (.int x5)]) dX9_readsAll_293 rfl (Nat.le_of_ble_eq_true rfl) rfl ?_
  obtain ⟨z1, e_z1, hf⟩ := bd_s hf
  refine vv_iincE (q := 298) (v := z1) (c := 1) (L' := [some (.ref a0), some (.int x1), none, none, some (.int s0), some (.int z1)]) e_z1 dX9_readsAll_295 rfl rfl (by decide) (Nat.le_of_ble_eq_true rfl) rfl ?_
  refine vv_goto 263 dX9_readsAll_298 (by decide) ?_
  exact hk263 _ _ _ hf

set_option maxHeartbeats 4000000 in
theorem v_X9_readsAll_316 {w : Wo} {K : Kn} {a0 : Nat} {x1 : Int32} {q : Mem} (t_a0 : K a0 = some (.inl 8)) {m : Mem} (hf : f_X9_readsAll_316 K a0 x1 m = some q) : VV w RX9 cX9_readsAll 6 none rm_X9_readsAll false (QM w K none q 0 0) K 316 [some (.ref a0), some (.int x1), none, none, none, none] [] 0 0 m := by
  unfold f_X9_readsAll_316 at hf
  refine vv_aload_n 317 dX9_readsAll_316 rfl rfl ?_
  obtain ⟨b1, g_b1, hf⟩ := bind_s hf
  have t_b1 := (ldA_spec g_b1).2
  refine gf_RX9_25 320 dX9_readsAll_317 rfl t_a0 (ldA_spec g_b1).1 ?_
  refine vv_iload_n 321 dX9_readsAll_320 rfl rfl ?_
  refine vv_aload_n 322 dX9_readsAll_321 rfl rfl ?_
  refine gf_RX9_175 325 dX9_readsAll_322 rfl t_a0 ?_
  obtain ⟨m2, g_m2, hf⟩ := bind_s hf
  refine vv_iast 326 dX9_readsAll_325 rfl t_b1 g_m2 ?_
  obtain rfl := Option.some.inj hf
  exact vv_vret dX9_readsAll_326 rfl

set_option maxHeartbeats 4000000 in
theorem v_X9_readsAll_301 {w : Wo} {K : Kn} {a0 : Nat} {x1 : Int32} {q : Mem} (t_a0 : K a0 = some (.inl 8)) {m : Mem} {x4 : Int32} (hf : f_X9_readsAll_301 K a0 x1 m x4 = some q) : VV w RX9 cX9_readsAll 6 none rm_X9_readsAll false (QM w K none q 0 0) K 301 [some (.ref a0), some (.int x1), none, none, some (.int x4), none] [] 0 0 m := by
  unfold f_X9_readsAll_301 at hf
  refine vv_iload 303 dX9_readsAll_301 rfl rfl ?_
  refine vv_if_eq 316 306 dX9_readsAll_303 rfl (by decide) (fun c1 => ?_) (fun c1 => ?_)
  · rw [if_pos c1] at hf
    exact VV.lle (v_X9_readsAll_316 t_a0 hf) (lle_s (lle_s (lle_s (lle_s (lle_n (lle_s lle_nil))))))
  · rw [if_neg c1] at hf
    refine vv_aload_n 307 dX9_readsAll_306 rfl rfl ?_
    refine vv_bipush 309 (v := 6) dX9_readsAll_307 rfl (by decide) ?_
    refine vv_aload_n 310 dX9_readsAll_309 rfl rfl ?_
    refine gf_RX9_175 313 dX9_readsAll_310 rfl t_a0 ?_
    obtain ⟨q2, g_q2, hf⟩ := bind_s hf
    refine vv_callV 316 (st := []) (As := [.int (6 : Int32), .int (gI m a0 20)]) (stk2 := []) (cl2 := 0) (sl2 := 0) dX9_readsAll_313 rfl lk_RX9_226 w_1244 w_26 rfl t_a0 ⟨(Nat.le_of_ble_eq_true rfl), (Nat.le_of_ble_eq_true rfl)⟩ rfl rfl ⟨(Nat.le_of_ble_eq_true rfl), (Nat.le_of_ble_eq_true rfl)⟩ rfl (Nat.le_of_ble_eq_true rfl) rfl rfl rfl rfl (c_X9_faults t_a0 g_q2) ?_
    exact VV.lle (v_X9_readsAll_316 t_a0 hf) (lle_s (lle_s (lle_s (lle_s (lle_n (lle_s lle_nil))))))

set_option maxHeartbeats 4000000 in
theorem v_X9_readsAll_263B {w : Wo} {K : Kn} {a0 : Nat} {x1 : Int32} {q : Mem} (t_a0 : K a0 = some (.inl 8)) (k263 : Mem → Int32 → Int32 → Option Mem) (hk263 : ∀ (m : Mem) (x4 : Int32) (x5 : Int32), k263 m x4 x5 = some q → VV w RX9 cX9_readsAll 6 none rm_X9_readsAll false (QM w K none q 0 0) K 263 [some (.ref a0), some (.int x1), none, none, some (.int x4), some (.int x5)] [] 0 0 m) {m : Mem} {x4 : Int32} {x5 : Int32} (hf : f_X9_readsAll_263B K a0 x1 k263 m x4 x5 = some q) : VV w RX9 cX9_readsAll 6 none rm_X9_readsAll false (QM w K none q 0 0) K 263 [some (.ref a0), some (.int x1), none, none, some (.int x4), some (.int x5)] [] 0 0 m := by
  unfold f_X9_readsAll_263B at hf
  refine vv_iload 265 dX9_readsAll_263 rfl rfl ?_
  refine vv_aload_n 266 dX9_readsAll_265 rfl rfl ?_
  refine gf_RX9_209 269 dX9_readsAll_266 rfl t_a0 ?_
  refine vv_icmp_ge 301 272 dX9_readsAll_269 rfl (by decide) (fun c1 => ?_) (fun c1 => ?_)
  · rw [if_pos c1] at hf
    exact VV.lle (v_X9_readsAll_301 t_a0 hf) (lle_s (lle_s (lle_s (lle_s (lle_s (lle_n lle_nil))))))
  · rw [if_neg c1] at hf
    refine vv_iload 274 dX9_readsAll_272 rfl rfl ?_
    refine vv_if_ne 301 277 dX9_readsAll_274 rfl (by decide) (fun c2 => ?_) (fun c2 => ?_)
    · rw [if_pos c2] at hf
      refine vv_aload_n 278 dX9_readsAll_277 rfl rfl ?_
      refine vv_iload_n 279 dX9_readsAll_278 rfl rfl ?_
      refine vv_iload 281 dX9_readsAll_279 rfl rfl ?_
      obtain ⟨q3, g_q3, hf⟩ := bind_s hf
      refine vv_callV 284 (st := []) (As := [.int x1, .int x5]) (stk2 := [.int q3]) (cl2 := 0) (sl2 := 0) dX9_readsAll_281 rfl lk_RX9_212 w_1280 w_35 rfl t_a0 ⟨(Nat.le_of_ble_eq_true rfl), (Nat.le_of_ble_eq_true rfl)⟩ rfl rfl ⟨(Nat.le_of_ble_eq_true rfl), (Nat.le_of_ble_eq_true rfl)⟩ rfl (Nat.le_of_ble_eq_true rfl) rfl rfl rfl rfl (c_X9_bitAt t_a0 g_q3) ?_
      refine vv_iconst 285 (v := 1) dX9_readsAll_284 rfl (by decide) ?_
      refine vv_icmp_ne 292 288 dX9_readsAll_285 rfl (by decide) (fun c4 => ?_) (fun c4 => ?_)
      · rw [if_pos c4] at hf
        refine vv_iconst 289 (v := 1) dX9_readsAll_288 rfl (by decide) ?_
        refine vv_goto 293 dX9_readsAll_289 (by decide) ?_
        exact VV.lle (v_X9_readsAll_293 t_a0 k263 hk263 hf) (lle_s (lle_s (lle_s (lle_s (lle_n (lle_s lle_nil))))))
      · rw [if_neg c4] at hf
        refine vv_iconst 293 (v := 0) dX9_readsAll_292 rfl (by decide) ?_
        exact VV.lle (v_X9_readsAll_293 t_a0 k263 hk263 hf) (lle_s (lle_s (lle_s (lle_s (lle_n (lle_s lle_nil))))))
    · rw [if_neg c2] at hf
      exact VV.lle (v_X9_readsAll_301 t_a0 hf) (lle_s (lle_s (lle_s (lle_s (lle_s (lle_n lle_nil))))))

theorem v_X9_readsAll_263 {w : Wo} {K : Kn} {a0 : Nat} {x1 : Int32} {q : Mem} (t_a0 : K a0 = some (.inl 8)) : ∀ (n : Nat) (m : Mem) (x4 : Int32) (x5 : Int32), f_X9_readsAll_263 K a0 x1 n m x4 x5 = some q → VV w RX9 cX9_readsAll 6 none rm_X9_readsAll false (QM w K none q 0 0) K 263 [some (.ref a0), some (.int x1), none, none, some (.int x4), some (.int x5)] [] 0 0 m := by
  intro n
  induction n with
  | zero => intro m x4 x5 hf; cases hf
  | succ n ih => intro m x4 x5 hf; exact v_X9_readsAll_263B (a0 := a0) (x1 := x1) t_a0 (f_X9_readsAll_263 K a0 x1 n) ih hf

set_option maxHeartbeats 4000000 in
theorem v_X9_readsAll_255 {w : Wo} {K : Kn} {a0 : Nat} {x1 : Int32} {q : Mem} (t_a0 : K a0 = some (.inl 8)) {m : Mem} {s0 : Int32} (hf : f_X9_readsAll_255 K a0 x1 m s0 = some q) : VV w RX9 cX9_readsAll 6 none rm_X9_readsAll false (QM w K none q 0 0) K 255 [some (.ref a0), some (.int x1), none, none, none, none] [.int s0] 0 0 m := by
  unfold f_X9_readsAll_255 at hf
  refine vv_istore 257 (L' := [some (.ref a0), some (.int x1), none, none, some (.int s0), none]) dX9_readsAll_255 rfl (Nat.le_of_ble_eq_true rfl) rfl ?_
  refine vv_aload_n 258 dX9_readsAll_257 rfl rfl ?_
  refine gf_RX9_175 261 dX9_readsAll_258 rfl t_a0 ?_
  obtain ⟨z1, e_z1, hf⟩ := bd_s hf
  refine vv_istoreE (q := 263) (v := z1) (L' := [some (.ref a0), some (.int x1), none, none, some (.int s0), some (.int z1)]) e_z1 dX9_readsAll_261 rfl (Nat.le_of_ble_eq_true rfl) rfl ?_
  exact v_X9_readsAll_263 t_a0 FU _ _ _ hf

set_option maxHeartbeats 4000000 in
theorem v_X9_readsAll_192B {w : Wo} {K : Kn} {a0 : Nat} {x1 : Int32} {q : Mem} (t_a0 : K a0 = some (.inl 8)) (k192 : Mem → Int32 → Option Mem) (hk192 : ∀ (m : Mem) (x3 : Int32), k192 m x3 = some q → VV w RX9 cX9_readsAll 6 none rm_X9_readsAll false (QM w K none q 0 0) K 192 [some (.ref a0), some (.int x1), none, some (.int x3), none, none] [] 0 0 m) {m : Mem} {x3 : Int32} (hf : f_X9_readsAll_192B K a0 x1 k192 m x3 = some q) : VV w RX9 cX9_readsAll 6 none rm_X9_readsAll false (QM w K none q 0 0) K 192 [some (.ref a0), some (.int x1), none, some (.int x3), none, none] [] 0 0 m := by
  unfold f_X9_readsAll_192B at hf
  refine vv_aload_n 193 dX9_readsAll_192 rfl rfl ?_
  refine gf_RX9_223 196 dX9_readsAll_193 rfl t_a0 ?_
  refine vv_iload_n 197 dX9_readsAll_196 rfl rfl ?_
  refine vv_icmp_ge 236 200 dX9_readsAll_197 rfl (by decide) (fun c1 => ?_) (fun c1 => ?_)
  · rw [if_pos c1] at hf
    refine vv_aload_n 237 dX9_readsAll_236 rfl rfl ?_
    refine gf_RX9_209 240 dX9_readsAll_237 rfl t_a0 ?_
    refine vv_aload_n 241 dX9_readsAll_240 rfl rfl ?_
    refine gf_RX9_175 244 dX9_readsAll_241 rfl t_a0 ?_
    refine vv_isub 245 dX9_readsAll_244 rfl ?_
    refine vv_bipush 247 (v := 7) dX9_readsAll_245 rfl (by decide) ?_
    refine vv_icmp_le 254 250 dX9_readsAll_247 rfl (by decide) (fun c2 => ?_) (fun c2 => ?_)
    · rw [if_pos c2] at hf
      refine vv_iconst 255 (v := 0) dX9_readsAll_254 rfl (by decide) ?_
      exact VV.lle (v_X9_readsAll_255 t_a0 hf) (lle_s (lle_s (lle_s (lle_n (lle_s (lle_s lle_nil))))))
    · rw [if_neg c2] at hf
      refine vv_iconst 251 (v := 1) dX9_readsAll_250 rfl (by decide) ?_
      refine vv_goto 255 dX9_readsAll_251 (by decide) ?_
      exact VV.lle (v_X9_readsAll_255 t_a0 hf) (lle_s (lle_s (lle_s (lle_n (lle_s (lle_s lle_nil))))))
  · rw [if_neg c1] at hf
    refine vv_aload_n 201 dX9_readsAll_200 rfl rfl ?_
    refine gf_RX9_175 204 dX9_readsAll_201 rfl t_a0 ?_
    obtain ⟨z3, e_z3, hf⟩ := bd_s hf
    refine vv_istoreE (q := 206) (v := z3) (L' := [some (.ref a0), some (.int x1), none, some (.int x3), some (.int z3), none]) e_z3 dX9_readsAll_204 rfl (Nat.le_of_ble_eq_true rfl) rfl ?_
    refine vv_aload_n 207 dX9_readsAll_206 rfl rfl ?_
    refine vv_iload_n 208 dX9_readsAll_207 rfl rfl ?_
    obtain ⟨q4, g_q4, hf⟩ := bind_s hf
    refine vv_callV 211 (st := []) (As := [.int x1]) (stk2 := [.int q4.1]) (cl2 := 0) (sl2 := 0) dX9_readsAll_208 rfl lk_RX9_236 w_1272 w_33 rfl t_a0 ⟨(Nat.le_of_ble_eq_true rfl), (Nat.le_of_ble_eq_true rfl)⟩ rfl rfl ⟨(Nat.le_of_ble_eq_true rfl), (Nat.le_of_ble_eq_true rfl)⟩ rfl (Nat.le_of_ble_eq_true rfl) rfl rfl rfl rfl (c_X9_readsOne t_a0 g_q4) ?_
    obtain ⟨z5, e_z5, hf⟩ := bd_s hf
    refine vv_istoreE (q := 213) (v := z5) (L' := [some (.ref a0), some (.int x1), none, some (.int x3), some (.int z3), some (.int z5)]) e_z5 dX9_readsAll_211 rfl (Nat.le_of_ble_eq_true rfl) rfl ?_
    refine vv_iload 215 dX9_readsAll_213 rfl rfl ?_
    refine vv_if_le 227 218 dX9_readsAll_215 rfl (by decide) (fun c6 => ?_) (fun c6 => ?_)
    · rw [if_pos c6] at hf
      refine vv_aload_n 228 dX9_readsAll_227 rfl rfl ?_
      refine vv_iload 230 dX9_readsAll_228 rfl rfl ?_
      obtain ⟨q7, g_q7, hf⟩ := bind_s hf
      refine vv_callV 233 (st := []) (As := [.int z3]) (stk2 := []) (cl2 := 0) (sl2 := 0) dX9_readsAll_230 rfl lk_RX9_232 w_1268 w_32 rfl t_a0 ⟨(Nat.le_of_ble_eq_true rfl), (Nat.le_of_ble_eq_true rfl)⟩ rfl rfl ⟨(Nat.le_of_ble_eq_true rfl), (Nat.le_of_ble_eq_true rfl)⟩ rfl (Nat.le_of_ble_eq_true rfl) rfl rfl rfl rfl (c_X9_keepsOne t_a0 g_q7) ?_
      refine vv_goto 192 dX9_readsAll_233 (by decide) ?_
      exact VV.lle (hk192 _ _ hf) (lle_s (lle_s (lle_s (lle_s (lle_n (lle_n lle_nil))))))
    · rw [if_neg c6] at hf
      refine vv_aload_n 219 dX9_readsAll_218 rfl rfl ?_
      refine vv_iload 221 dX9_readsAll_219 rfl rfl ?_
      refine vv_iload 223 dX9_readsAll_221 rfl rfl ?_
      obtain ⟨q8, g_q8, hf⟩ := bind_s hf
      refine vv_callV 226 (st := []) (As := [.int z5, .int z3]) (stk2 := []) (cl2 := 0) (sl2 := 0) dX9_readsAll_223 rfl lk_RX9_226 w_1244 w_26 rfl t_a0 ⟨(Nat.le_of_ble_eq_true rfl), (Nat.le_of_ble_eq_true rfl)⟩ rfl rfl ⟨(Nat.le_of_ble_eq_true rfl), (Nat.le_of_ble_eq_true rfl)⟩ rfl (Nat.le_of_ble_eq_true rfl) rfl rfl rfl rfl (c_X9_faults t_a0 g_q8) ?_
      obtain rfl := Option.some.inj hf
      exact vv_vret dX9_readsAll_226 rfl

theorem v_X9_readsAll_192 {w : Wo} {K : Kn} {a0 : Nat} {x1 : Int32} {q : Mem} (t_a0 : K a0 = some (.inl 8)) : ∀ (n : Nat) (m : Mem) (x3 : Int32), f_X9_readsAll_192 K a0 x1 n m x3 = some q → VV w RX9 cX9_readsAll 6 none rm_X9_readsAll false (QM w K none q 0 0) K 192 [some (.ref a0), some (.int x1), none, some (.int x3), none, none] [] 0 0 m := by
  intro n
  induction n with
  | zero => intro m x3 hf; cases hf
  | succ n ih => intro m x3 hf; exact v_X9_readsAll_192B (a0 := a0) (x1 := x1) t_a0 (f_X9_readsAll_192 K a0 x1 n) ih hf

set_option maxHeartbeats 4000000 in
theorem v_X9_readsAll_106 {w : Wo} {K : Kn} {a0 : Nat} {x1 : Int32} {q : Mem} (t_a0 : K a0 = some (.inl 8)) {m : Mem} {sa0 : Nat} {s1 : Int32} (t_sa0 : K sa0 = some (.inl 8)) (hf : f_X9_readsAll_106 K a0 x1 m sa0 s1 = some q) : VV w RX9 cX9_readsAll 6 none rm_X9_readsAll false (QM w K none q 0 0) K 106 [some (.ref a0), some (.int x1), none, none, none, none] [.int s1, .ref sa0] 0 0 m := by
  unfold f_X9_readsAll_106 at hf
  obtain ⟨m1, e_m1, hf⟩ := bd_s hf
  refine pf_RX9_209 109 dX9_readsAll_106 rfl t_sa0 e_m1 ?_
  refine vv_aload_n 110 dX9_readsAll_109 rfl rfl ?_
  refine vv_iload_n 111 dX9_readsAll_110 rfl rfl ?_
  refine vv_bipush 113 (v := 12) dX9_readsAll_111 rfl (by decide) ?_
  obtain ⟨q2, g_q2, hf⟩ := bind_s hf
  refine vv_callV 116 (st := []) (As := [.int x1, .int (12 : Int32)]) (stk2 := [.int q2]) (cl2 := 0) (sl2 := 0) dX9_readsAll_113 rfl lk_RX9_107 w_1248 w_27 rfl t_a0 ⟨(Nat.le_of_ble_eq_true rfl), (Nat.le_of_ble_eq_true rfl)⟩ rfl rfl ⟨(Nat.le_of_ble_eq_true rfl), (Nat.le_of_ble_eq_true rfl)⟩ rfl (Nat.le_of_ble_eq_true rfl) rfl rfl rfl rfl (c_X9_byteAt t_a0 g_q2) ?_
  refine vv_sipush 119 (v := 256) dX9_readsAll_116 rfl (by decide) ?_
  refine vv_imul 120 dX9_readsAll_119 rfl ?_
  refine vv_aload_n 121 dX9_readsAll_120 rfl rfl ?_
  refine vv_iload_n 122 dX9_readsAll_121 rfl rfl ?_
  refine vv_bipush 124 (v := 13) dX9_readsAll_122 rfl (by decide) ?_
  obtain ⟨q3, g_q3, hf⟩ := bind_s hf
  refine vv_callV 127 (st := [.int (q2 * (256 : Int32))]) (As := [.int x1, .int (13 : Int32)]) (stk2 := [.int q3, .int (q2 * (256 : Int32))]) (cl2 := 0) (sl2 := 0) dX9_readsAll_124 rfl lk_RX9_107 w_1248 w_27 rfl t_a0 ⟨(Nat.le_of_ble_eq_true rfl), (Nat.le_of_ble_eq_true rfl)⟩ rfl rfl ⟨(Nat.le_of_ble_eq_true rfl), (Nat.le_of_ble_eq_true rfl)⟩ rfl (Nat.le_of_ble_eq_true rfl) rfl rfl rfl rfl (c_X9_byteAt t_a0 g_q3) ?_
  refine vv_iadd 128 dX9_readsAll_127 rfl ?_
  obtain ⟨z4, e_z4, hf⟩ := bd_s hf
  refine vv_istore_nE (q := 129) (v := z4) (L' := [some (.ref a0), some (.int x1), none, some (.int z4), none, none]) e_z4 dX9_readsAll_128 rfl (Nat.le_of_ble_eq_true rfl) rfl ?_
  refine vv_aload_n 130 dX9_readsAll_129 rfl rfl ?_
  refine vv_aload_n 131 dX9_readsAll_130 rfl rfl ?_
  refine vv_iload_n 132 dX9_readsAll_131 rfl rfl ?_
  obtain ⟨q5, g_q5, hf⟩ := bind_s hf
  refine vv_callV 135 (st := [.ref a0]) (As := [.int x1]) (stk2 := [.long q5, .ref a0]) (cl2 := 0) (sl2 := 0) dX9_readsAll_132 rfl lk_RX9_196 w_1256 w_29 rfl t_a0 ⟨(Nat.le_of_ble_eq_true rfl), (Nat.le_of_ble_eq_true rfl)⟩ rfl rfl ⟨(Nat.le_of_ble_eq_true rfl), (Nat.le_of_ble_eq_true rfl)⟩ rfl (Nat.le_of_ble_eq_true rfl) rfl rfl rfl rfl (c_X9_headStamp t_a0 g_q5) ?_
  refine vv_aload_n 136 dX9_readsAll_135 rfl rfl ?_
  refine vv_iload_n 137 dX9_readsAll_136 rfl rfl ?_
  obtain ⟨q6, g_q6, hf⟩ := bind_s hf
  refine vv_callV 140 (st := [.long q5, .ref a0]) (As := [.int x1]) (stk2 := [.long q6, .long q5, .ref a0]) (cl2 := 0) (sl2 := 0) dX9_readsAll_137 rfl lk_RX9_229 w_1260 w_30 rfl t_a0 ⟨(Nat.le_of_ble_eq_true rfl), (Nat.le_of_ble_eq_true rfl)⟩ rfl rfl ⟨(Nat.le_of_ble_eq_true rfl), (Nat.le_of_ble_eq_true rfl)⟩ rfl (Nat.le_of_ble_eq_true rfl) rfl rfl rfl rfl (c_X9_headBits t_a0 g_q6) ?_
  obtain ⟨q7, g_q7, hf⟩ := bind_s hf
  refine vv_callV 143 (st := []) (As := [.long q5, .long q6]) (stk2 := []) (cl2 := 0) (sl2 := 0) dX9_readsAll_140 rfl lk_RX9_192 w_1264 w_31 rfl t_a0 ⟨(Nat.le_of_ble_eq_true rfl), (Nat.le_of_ble_eq_true rfl)⟩ rfl rfl ⟨(Nat.le_of_ble_eq_true rfl), (Nat.le_of_ble_eq_true rfl)⟩ rfl (Nat.le_of_ble_eq_true rfl) rfl rfl rfl rfl (c_X9_heads t_a0 g_q7) ?_
  refine vv_iload_n 144 dX9_readsAll_143 rfl rfl ?_
  refine vv_if_eq 158 147 dX9_readsAll_144 rfl (by decide) (fun c8 => ?_) (fun c8 => ?_)
  · rw [if_pos c8] at hf
    exact VV.lle (v_X9_readsAll_158 t_a0 hf) (lle_s (lle_n (lle_s (lle_s (lle_s (lle_s lle_nil))))))
  · rw [if_neg c8] at hf
    refine vv_aload_n 148 dX9_readsAll_147 rfl rfl ?_
    refine gf_RX9_149 151 dX9_readsAll_148 rfl t_a0 ?_
    refine vv_ldc2 154 (v := 2000000000) dX9_readsAll_151 rfl w_1225 ?_
    refine vv_lcmp 155 dX9_readsAll_154 rfl ?_
    refine vv_if_le 173 158 dX9_readsAll_155 rfl (by decide) (fun c9 => ?_) (fun c9 => ?_)
    · rw [if_pos c9] at hf
      refine vv_aload_n 174 dX9_readsAll_173 rfl rfl ?_
      obtain ⟨b10, g_b10, hf⟩ := bind_s hf
      have t_b10 := (ldA_spec g_b10).2
      refine gf_RX9_63 177 dX9_readsAll_174 rfl t_a0 (ldA_spec g_b10).1 ?_
      refine vv_iconst 178 (v := 0) dX9_readsAll_177 rfl (by decide) ?_
      refine vv_iconst 179 (v := (-1)) dX9_readsAll_178 rfl (by decide) ?_
      obtain ⟨m11, g_m11, hf⟩ := bind_s hf
      refine vv_iast 180 dX9_readsAll_179 rfl t_b10 g_m11 ?_
      refine vv_aload_n 181 dX9_readsAll_180 rfl rfl ?_
      obtain ⟨b12, g_b12, hf⟩ := bind_s hf
      have t_b12 := (ldA_spec g_b12).2
      refine gf_RX9_60 184 dX9_readsAll_181 rfl t_a0 (ldA_spec g_b12).1 ?_
      refine vv_iconst 185 (v := 0) dX9_readsAll_184 rfl (by decide) ?_
      refine vv_iconst 186 (v := (-1)) dX9_readsAll_185 rfl (by decide) ?_
      obtain ⟨m13, g_m13, hf⟩ := bind_s hf
      refine vv_iast 187 dX9_readsAll_186 rfl t_b12 g_m13 ?_
      refine vv_aload_n 188 dX9_readsAll_187 rfl rfl ?_
      refine vv_iconst 189 (v := 0) dX9_readsAll_188 rfl (by decide) ?_
      obtain ⟨q14, g_q14, hf⟩ := bind_s hf
      refine vv_callV 192 (st := []) (As := [.int (0 : Int32)]) (stk2 := []) (cl2 := 0) (sl2 := 0) dX9_readsAll_189 rfl lk_RX9_232 w_1268 w_32 rfl t_a0 ⟨(Nat.le_of_ble_eq_true rfl), (Nat.le_of_ble_eq_true rfl)⟩ rfl rfl ⟨(Nat.le_of_ble_eq_true rfl), (Nat.le_of_ble_eq_true rfl)⟩ rfl (Nat.le_of_ble_eq_true rfl) rfl rfl rfl rfl (c_X9_keepsOne t_a0 g_q14) ?_
      exact v_X9_readsAll_192 t_a0 FU _ _ hf
    · rw [if_neg c9] at hf
      exact VV.lle (v_X9_readsAll_158 t_a0 hf) (lle_s (lle_n (lle_s (lle_s (lle_s (lle_s lle_nil))))))

set_option maxHeartbeats 4000000 in
theorem v_X9_readsAll_80 {w : Wo} {K : Kn} {a0 : Nat} {x1 : Int32} {q : Mem} (t_a0 : K a0 = some (.inl 8)) {m : Mem} {x2 : Int32} (hf : f_X9_readsAll_80 K a0 x1 m x2 = some q) : VV w RX9 cX9_readsAll 6 none rm_X9_readsAll false (QM w K none q 0 0) K 80 [some (.ref a0), some (.int x1), some (.int x2), none, none, none] [] 0 0 m := by
  unfold f_X9_readsAll_80 at hf
  refine vv_aload_n 81 dX9_readsAll_80 rfl rfl ?_
  refine vv_aload_n 82 dX9_readsAll_81 rfl rfl ?_
  obtain ⟨b1, g_b1, hf⟩ := bind_s hf
  have t_b1 := (ldA_spec g_b1).2
  refine gf_RX9_28 85 dX9_readsAll_82 rfl t_a0 (ldA_spec g_b1).1 ?_
  refine vv_iload_n 86 dX9_readsAll_85 rfl rfl ?_
  obtain ⟨r2, g_r2, hf⟩ := bind_s hf
  refine vv_zald 87 dX9_readsAll_86 rfl t_b1 g_r2 ?_
  refine vv_if_eq 100 90 dX9_readsAll_87 rfl (by decide) (fun c3 => ?_) (fun c3 => ?_)
  · rw [if_pos c3] at hf
    refine vv_aload_n 101 dX9_readsAll_100 rfl rfl ?_
    obtain ⟨b4, g_b4, hf⟩ := bind_s hf
    have t_b4 := (ldA_spec g_b4).2
    refine gf_RX9_25 104 dX9_readsAll_101 rfl t_a0 (ldA_spec g_b4).1 ?_
    refine vv_iload_n 105 dX9_readsAll_104 rfl rfl ?_
    obtain ⟨r5, g_r5, hf⟩ := bind_s hf
    refine vv_iald 106 dX9_readsAll_105 rfl t_b4 g_r5 ?_
    exact VV.lle (v_X9_readsAll_106 t_a0 t_a0 hf) (lle_s (lle_s (lle_n (lle_s (lle_s (lle_s lle_nil))))))
  · rw [if_neg c3] at hf
    refine vv_bipush 92 (v := 8) dX9_readsAll_90 rfl (by decide) ?_
    refine vv_iload_n 93 dX9_readsAll_92 rfl rfl ?_
    refine vv_bipush 95 (v := 14) dX9_readsAll_93 rfl (by decide) ?_
    refine vv_isub 96 dX9_readsAll_95 rfl ?_
    refine vv_imul 97 dX9_readsAll_96 rfl ?_
    refine vv_goto 106 dX9_readsAll_97 (by decide) ?_
    exact VV.lle (v_X9_readsAll_106 t_a0 t_a0 hf) (lle_s (lle_s (lle_n (lle_s (lle_s (lle_s lle_nil))))))

set_option maxHeartbeats 4000000 in
theorem v_X9_readsAll_37 {w : Wo} {K : Kn} {a0 : Nat} {x1 : Int32} {q : Mem} (t_a0 : K a0 = some (.inl 8)) {m : Mem} {s0 : Int32} (hf : f_X9_readsAll_37 K a0 x1 m s0 = some q) : VV w RX9 cX9_readsAll 6 none rm_X9_readsAll false (QM w K none q 0 0) K 37 [some (.ref a0), some (.int x1), none, none, none, none] [.int s0] 0 0 m := by
  unfold f_X9_readsAll_37 at hf
  refine vv_istore_n 38 (L' := [some (.ref a0), some (.int x1), some (.int s0), none, none, none]) dX9_readsAll_37 rfl (Nat.le_of_ble_eq_true rfl) rfl ?_
  refine vv_aload_n 39 dX9_readsAll_38 rfl rfl ?_
  obtain ⟨b1, g_b1, hf⟩ := bind_s hf
  have t_b1 := (ldA_spec g_b1).2
  refine gf_RX9_28 42 dX9_readsAll_39 rfl t_a0 (ldA_spec g_b1).1 ?_
  refine vv_iload_n 43 dX9_readsAll_42 rfl rfl ?_
  obtain ⟨r2, g_r2, hf⟩ := bind_s hf
  refine vv_zald 44 dX9_readsAll_43 rfl t_b1 g_r2 ?_
  refine vv_if_eq 80 47 dX9_readsAll_44 rfl (by decide) (fun c3 => ?_) (fun c3 => ?_)
  · rw [if_pos c3] at hf
    exact v_X9_readsAll_80 t_a0 hf
  · rw [if_neg c3] at hf
    refine vv_aload_n 48 dX9_readsAll_47 rfl rfl ?_
    obtain ⟨b4, g_b4, hf⟩ := bind_s hf
    have t_b4 := (ldA_spec g_b4).2
    refine gf_RX9_22 51 dX9_readsAll_48 rfl t_a0 (ldA_spec g_b4).1 ?_
    refine vv_iload_n 52 dX9_readsAll_51 rfl rfl ?_
    obtain ⟨r5, g_r5, hf⟩ := bind_s hf
    refine vv_iald 53 dX9_readsAll_52 rfl t_b4 g_r5 ?_
    refine vv_bipush 55 (v := 15) dX9_readsAll_53 rfl (by decide) ?_
    refine vv_icmp_lt 73 58 dX9_readsAll_55 rfl (by decide) (fun c6 => ?_) (fun c6 => ?_)
    · rw [if_pos c6] at hf
      exact VV.lle (v_X9_readsAll_73 t_a0 hf) (lle_s (lle_n (lle_n (lle_s (lle_s (lle_s lle_nil))))))
    · rw [if_neg c6] at hf
      refine vv_aload_n 59 dX9_readsAll_58 rfl rfl ?_
      refine vv_iload_n 60 dX9_readsAll_59 rfl rfl ?_
      refine vv_iload_n 61 dX9_readsAll_60 rfl rfl ?_
      obtain ⟨q7, g_q7, hf⟩ := bind_s hf
      refine vv_callV 64 (st := []) (As := [.int x1, .int s0]) (stk2 := [.int q7]) (cl2 := 0) (sl2 := 0) dX9_readsAll_61 rfl lk_RX9_107 w_1248 w_27 rfl t_a0 ⟨(Nat.le_of_ble_eq_true rfl), (Nat.le_of_ble_eq_true rfl)⟩ rfl rfl ⟨(Nat.le_of_ble_eq_true rfl), (Nat.le_of_ble_eq_true rfl)⟩ rfl (Nat.le_of_ble_eq_true rfl) rfl rfl rfl rfl (c_X9_byteAt t_a0 g_q7) ?_
      refine vv_aload_n 65 dX9_readsAll_64 rfl rfl ?_
      refine vv_iload_n 66 dX9_readsAll_65 rfl rfl ?_
      refine vv_iload_n 67 dX9_readsAll_66 rfl rfl ?_
      obtain ⟨q8, g_q8, hf⟩ := bind_s hf
      refine vv_callV 70 (st := [.int q7]) (As := [.int x1, .int s0]) (stk2 := [.int q8, .int q7]) (cl2 := 0) (sl2 := 0) dX9_readsAll_67 rfl lk_RX9_200 w_1252 w_28 rfl t_a0 ⟨(Nat.le_of_ble_eq_true rfl), (Nat.le_of_ble_eq_true rfl)⟩ rfl rfl ⟨(Nat.le_of_ble_eq_true rfl), (Nat.le_of_ble_eq_true rfl)⟩ rfl (Nat.le_of_ble_eq_true rfl) rfl rfl rfl rfl (c_X9_checkOf t_a0 g_q8) ?_
      refine vv_icmp_eq 80 73 dX9_readsAll_70 rfl (by decide) (fun c9 => ?_) (fun c9 => ?_)
      · rw [if_pos c9] at hf
        exact v_X9_readsAll_80 t_a0 hf
      · rw [if_neg c9] at hf
        exact VV.lle (v_X9_readsAll_73 t_a0 hf) (lle_s (lle_n (lle_n (lle_s (lle_s (lle_s lle_nil))))))

set_option maxHeartbeats 4000000 in
theorem v_X9_readsAll_0 {w : Wo} {K : Kn} {a0 : Nat} {x1 : Int32} {q : Mem} (t_a0 : K a0 = some (.inl 8)) {m : Mem} (hf : f_X9_readsAll K a0 x1 m = some q) : VV w RX9 cX9_readsAll 6 none rm_X9_readsAll false (QM w K none q 0 0) K 0 [some (.ref a0), some (.int x1), none, none, none, none] [] 0 0 m := by
  unfold f_X9_readsAll at hf
  refine vv_aload_n 1 dX9_readsAll_0 rfl rfl ?_
  refine vv_iconst 2 (v := 0) dX9_readsAll_1 rfl (by decide) ?_
  refine vv_iconst 3 (v := (-1)) dX9_readsAll_2 rfl (by decide) ?_
  obtain ⟨q1, g_q1, hf⟩ := bind_s hf
  refine vv_callV 6 (st := []) (As := [.int (0 : Int32), .int (-1 : Int32)]) (stk2 := []) (cl2 := 0) (sl2 := 0) dX9_readsAll_3 rfl lk_RX9_226 w_1244 w_26 rfl t_a0 ⟨(Nat.le_of_ble_eq_true rfl), (Nat.le_of_ble_eq_true rfl)⟩ rfl rfl ⟨(Nat.le_of_ble_eq_true rfl), (Nat.le_of_ble_eq_true rfl)⟩ rfl (Nat.le_of_ble_eq_true rfl) rfl rfl rfl rfl (c_X9_faults t_a0 g_q1) ?_
  refine vv_aload_n 7 dX9_readsAll_6 rfl rfl ?_
  refine vv_iconst 8 (v := 0) dX9_readsAll_7 rfl (by decide) ?_
  obtain ⟨m2, e_m2, hf⟩ := bd_s hf
  refine pf_RX9_223 11 dX9_readsAll_8 rfl t_a0 e_m2 ?_
  refine vv_aload_n 12 dX9_readsAll_11 rfl rfl ?_
  obtain ⟨b3, g_b3, hf⟩ := bind_s hf
  have t_b3 := (ldA_spec g_b3).2
  refine gf_RX9_28 15 dX9_readsAll_12 rfl t_a0 (ldA_spec g_b3).1 ?_
  refine vv_iload_n 16 dX9_readsAll_15 rfl rfl ?_
  obtain ⟨r4, g_r4, hf⟩ := bind_s hf
  refine vv_zald 17 dX9_readsAll_16 rfl t_b3 g_r4 ?_
  refine vv_if_eq 31 20 dX9_readsAll_17 rfl (by decide) (fun c5 => ?_) (fun c5 => ?_)
  · rw [if_pos c5] at hf
    refine vv_aload_n 32 dX9_readsAll_31 rfl rfl ?_
    obtain ⟨b6, g_b6, hf⟩ := bind_s hf
    have t_b6 := (ldA_spec g_b6).2
    refine gf_RX9_22 35 dX9_readsAll_32 rfl t_a0 (ldA_spec g_b6).1 ?_
    refine vv_iload_n 36 dX9_readsAll_35 rfl rfl ?_
    obtain ⟨r7, g_r7, hf⟩ := bind_s hf
    refine vv_iald 37 dX9_readsAll_36 rfl t_b6 g_r7 ?_
    exact v_X9_readsAll_37 t_a0 hf
  · rw [if_neg c5] at hf
    refine vv_aload_n 21 dX9_readsAll_20 rfl rfl ?_
    obtain ⟨b8, g_b8, hf⟩ := bind_s hf
    have t_b8 := (ldA_spec g_b8).2
    refine gf_RX9_22 24 dX9_readsAll_21 rfl t_a0 (ldA_spec g_b8).1 ?_
    refine vv_iload_n 25 dX9_readsAll_24 rfl rfl ?_
    obtain ⟨r9, g_r9, hf⟩ := bind_s hf
    refine vv_iald 26 dX9_readsAll_25 rfl t_b8 g_r9 ?_
    refine vv_iconst 27 (v := 1) dX9_readsAll_26 rfl (by decide) ?_
    refine vv_isub 28 dX9_readsAll_27 rfl ?_
    refine vv_goto 37 dX9_readsAll_28 (by decide) ?_
    exact v_X9_readsAll_37 t_a0 hf

theorem c_X9_readsAll {w : Wo} {K : Kn} {a0 : Nat} {x1 : Int32} {q : Mem} {m : Mem} (t_a0 : K a0 = some (.inl 8)) (hf : F_X9_readsAll K m a0 x1 = some q) : MM w K K yX9_readsAll cX9_readsAll 6 none rm_X9_readsAll [.ref a0, .int x1] m none q 0 0 :=
  mm_of (ini := false) (n := 4) (plainFor_of_name (by decide)) rfl (fun h => by first | rfl | cases h) (Nat.le_of_ble_eq_true rfl) rfl (v_X9_readsAll_0 t_a0 hf)

set_option maxHeartbeats 4000000 in
theorem v_X9_reads_53 {w : Wo} {K : Kn} {a0 : Nat} {x1 : Int32} {q : Mem} (t_a0 : K a0 = some (.inl 8)) {m : Mem} (hf : f_X9_reads_53 K a0 x1 m = some q) : VV w RX9 cX9_reads 2 none rm_X9_reads false (QM w K none q 0 0) K 53 [some (.ref a0), none] [] 0 0 m := by
  unfold f_X9_reads_53 at hf
  refine vv_aload_n 54 dX9_reads_53 rfl rfl ?_
  refine vv_bipush 56 (v := 7) dX9_reads_54 rfl (by decide) ?_
  refine vv_iconst 57 (v := 0) dX9_reads_56 rfl (by decide) ?_
  obtain ⟨q1, g_q1, hf⟩ := bind_s hf
  refine vv_callV 60 (st := []) (As := [.int (7 : Int32), .int (0 : Int32)]) (stk2 := []) (cl2 := 0) (sl2 := 0) dX9_reads_57 rfl lk_RX9_226 w_1244 w_26 rfl t_a0 ⟨(Nat.le_of_ble_eq_true rfl), (Nat.le_of_ble_eq_true rfl)⟩ rfl rfl ⟨(Nat.le_of_ble_eq_true rfl), (Nat.le_of_ble_eq_true rfl)⟩ rfl (Nat.le_of_ble_eq_true rfl) rfl rfl rfl rfl (c_X9_faults t_a0 g_q1) ?_
  obtain rfl := Option.some.inj hf
  exact vv_vret dX9_reads_60 rfl

set_option maxHeartbeats 4000000 in
theorem v_X9_reads_0 {w : Wo} {K : Kn} {a0 : Nat} {x1 : Int32} {q : Mem} (t_a0 : K a0 = some (.inl 8)) {m : Mem} (hf : f_X9_reads K a0 x1 m = some q) : VV w RX9 cX9_reads 2 none rm_X9_reads false (QM w K none q 0 0) K 0 [some (.ref a0), some (.int x1)] [] 0 0 m := by
  unfold f_X9_reads at hf
  refine vv_aload_n 1 dX9_reads_0 rfl rfl ?_
  refine vv_iload_n 2 dX9_reads_1 rfl rfl ?_
  obtain ⟨q1, g_q1, hf⟩ := bind_s hf
  refine vv_callV 5 (st := []) (As := [.int x1]) (stk2 := []) (cl2 := 0) (sl2 := 0) dX9_reads_2 rfl lk_RX9_239 w_1240 w_25 rfl t_a0 ⟨(Nat.le_of_ble_eq_true rfl), (Nat.le_of_ble_eq_true rfl)⟩ rfl rfl ⟨(Nat.le_of_ble_eq_true rfl), (Nat.le_of_ble_eq_true rfl)⟩ rfl (Nat.le_of_ble_eq_true rfl) rfl rfl rfl rfl (c_X9_readsAll t_a0 g_q1) ?_
  refine vv_aload_n 6 dX9_reads_5 rfl rfl ?_
  refine gf_RX9_203 9 dX9_reads_6 rfl t_a0 ?_
  refine vv_if_ne 60 12 dX9_reads_9 rfl (by decide) (fun c2 => ?_) (fun c2 => ?_)
  · rw [if_pos c2] at hf
    refine vv_aload_n 13 dX9_reads_12 rfl rfl ?_
    obtain ⟨b3, g_b3, hf⟩ := bind_s hf
    have t_b3 := (ldA_spec g_b3).2
    refine gf_RX9_28 16 dX9_reads_13 rfl t_a0 (ldA_spec g_b3).1 ?_
    refine vv_iload_n 17 dX9_reads_16 rfl rfl ?_
    obtain ⟨r4, g_r4, hf⟩ := bind_s hf
    refine vv_zald 18 dX9_reads_17 rfl t_b3 g_r4 ?_
    refine vv_if_eq 60 21 dX9_reads_18 rfl (by decide) (fun c5 => ?_) (fun c5 => ?_)
    · rw [if_pos c5] at hf
      obtain rfl := Option.some.inj hf
      exact vv_vret dX9_reads_60 rfl
    · rw [if_neg c5] at hf
      refine vv_aload_n 22 dX9_reads_21 rfl rfl ?_
      obtain ⟨b6, g_b6, hf⟩ := bind_s hf
      have t_b6 := (ldA_spec g_b6).2
      refine gf_RX9_51 25 dX9_reads_22 rfl t_a0 (ldA_spec g_b6).1 ?_
      refine vv_iconst 26 (v := 0) dX9_reads_25 rfl (by decide) ?_
      obtain ⟨r7, g_r7, hf⟩ := bind_s hf
      refine vv_lald 27 dX9_reads_26 rfl t_b6 g_r7 ?_
      refine vv_aload_n 28 dX9_reads_27 rfl rfl ?_
      obtain ⟨b8, g_b8, hf⟩ := bind_s hf
      have t_b8 := (ldA_spec g_b8).2
      refine gf_RX9_32 31 dX9_reads_28 rfl t_a0 (ldA_spec g_b8).1 ?_
      refine vv_iload_n 32 dX9_reads_31 rfl rfl ?_
      obtain ⟨r9, g_r9, hf⟩ := bind_s hf
      refine vv_iald 33 dX9_reads_32 rfl t_b8 g_r9 ?_
      refine vv_i2l 34 dX9_reads_33 rfl ?_
      refine vv_lcmp 35 dX9_reads_34 rfl ?_
      refine vv_if_ne 53 38 dX9_reads_35 rfl (by decide) (fun c10 => ?_) (fun c10 => ?_)
      · rw [if_pos c10] at hf
        refine vv_aload_n 39 dX9_reads_38 rfl rfl ?_
        refine gf_RX9_149 42 dX9_reads_39 rfl t_a0 ?_
        refine vv_aload_n 43 dX9_reads_42 rfl rfl ?_
        obtain ⟨b11, g_b11, hf⟩ := bind_s hf
        have t_b11 := (ldA_spec g_b11).2
        refine gf_RX9_35 46 dX9_reads_43 rfl t_a0 (ldA_spec g_b11).1 ?_
        refine vv_iload_n 47 dX9_reads_46 rfl rfl ?_
        obtain ⟨r12, g_r12, hf⟩ := bind_s hf
        refine vv_iald 48 dX9_reads_47 rfl t_b11 g_r12 ?_
        refine vv_i2l 49 dX9_reads_48 rfl ?_
        refine vv_lcmp 50 dX9_reads_49 rfl ?_
        refine vv_if_eq 60 53 dX9_reads_50 rfl (by decide) (fun c13 => ?_) (fun c13 => ?_)
        · rw [if_pos c13] at hf
          obtain rfl := Option.some.inj hf
          exact vv_vret dX9_reads_60 rfl
        · rw [if_neg c13] at hf
          exact VV.lle (v_X9_reads_53 t_a0 hf) (lle_s (lle_n lle_nil))
      · rw [if_neg c10] at hf
        exact VV.lle (v_X9_reads_53 t_a0 hf) (lle_s (lle_n lle_nil))
  · rw [if_neg c2] at hf
    obtain rfl := Option.some.inj hf
    exact vv_vret dX9_reads_60 rfl

theorem c_X9_reads {w : Wo} {K : Kn} {a0 : Nat} {x1 : Int32} {q : Mem} {m : Mem} (t_a0 : K a0 = some (.inl 8)) (hf : F_X9_reads K m a0 x1 = some q) : MM w K K yX9_reads cX9_reads 2 none rm_X9_reads [.ref a0, .int x1] m none q 0 0 :=
  mm_of (ini := false) (n := 0) (plainFor_of_name (by decide)) rfl (fun h => by first | rfl | cases h) (Nat.le_of_ble_eq_true rfl) rfl (v_X9_reads_0 t_a0 hf)
