/-! ===== the walks ===== -/
abbrev rm_X3_shiftedDown : Room := { frames := 0, cells := 0, slots := 0, locals := 0 }
abbrev rm_J9_min_f86c9 : Room := { frames := 0, cells := 0, slots := 0, locals := 0 }
abbrev rm_X3_roundedOff : Room := { frames := 2, cells := 0, slots := 0, locals := 43 }
abbrev rm_X3_plus : Room := { frames := 3, cells := 0, slots := 0, locals := 77 }
abbrev rm_X5_total : Room := { frames := 4, cells := 0, slots := 0, locals := 110 }
abbrev rm_X8_value : Room := { frames := 6, cells := 0, slots := 0, locals := 149 }
abbrev rm_Jxe99ae_isNaN_b9ae7 : Room := { frames := 0, cells := 0, slots := 0, locals := 0 }
abbrev rm_Jxe99ae_doubleToLongBits_ccdee : Room := { frames := 1, cells := 0, slots := 0, locals := 25 }
abbrev rm_X5_countAbove : Room := { frames := 1, cells := 0, slots := 0, locals := 21 }
abbrev rm_X8_above : Room := { frames := 6, cells := 0, slots := 0, locals := 149 }
abbrev rm_X6_countWay : Room := { frames := 4, cells := 0, slots := 0, locals := 94 }
abbrev rm_X8_ways : Room := { frames := 5, cells := 0, slots := 0, locals := 118 }
abbrev rm_X8_window : Room := { frames := 2, cells := 0, slots := 0, locals := 41 }
abbrev rm_X5_longestGap : Room := { frames := 0, cells := 0, slots := 0, locals := 0 }
abbrev rm_X8_gap : Room := { frames := 7, cells := 0, slots := 0, locals := 170 }
abbrev rm_X5_longestSame : Room := { frames := 1, cells := 0, slots := 0, locals := 21 }
abbrev rm_X5_longestRise : Room := { frames := 1, cells := 0, slots := 0, locals := 21 }
abbrev rm_X8_row : Room := { frames := 7, cells := 0, slots := 0, locals := 170 }
abbrev rm_X8_gatherBoth : Room := { frames := 6, cells := 0, slots := 0, locals := 149 }
abbrev rm_X4_begin : Room := { frames := 0, cells := 0, slots := 0, locals := 0 }
abbrev rm_X4_advance : Room := { frames := 0, cells := 0, slots := 0, locals := 0 }
abbrev rm_X4_isInBoth : Room := { frames := 0, cells := 0, slots := 0, locals := 0 }
abbrev rm_X4_isAlike : Room := { frames := 0, cells := 0, slots := 0, locals := 0 }
abbrev rm_X8_both : Room := { frames := 7, cells := 0, slots := 0, locals := 171 }
set_option maxHeartbeats 4000000 in
theorem v_X3_shiftedDown_40 {w : Wo} {K : Kn} {x0 : Int64} {x2 : Int32} {q : Int64} {m : Mem} {s0 : Int64} {s1 : Int32} (hf : f_X3_shiftedDown_40 x0 x2 s0 s1 = some q) : VV w RX3 cX3_shiftedDown 5 (some .long) rm_X3_shiftedDown false (QM w K (some (.long q)) m 0 0) K 40 [none, none, none, none, none] [.int s1, .long s0] 0 0 m := by
  unfold f_X3_shiftedDown_40 at hf
  refine vv_i2l 41 dX3_shiftedDown_40 rfl ?_
  refine vv_lor 42 dX3_shiftedDown_41 rfl ?_
  obtain rfl := Option.some.inj hf
  exact vv_lret dX3_shiftedDown_42 rfl

set_option maxHeartbeats 4000000 in
theorem v_X3_shiftedDown_0 {w : Wo} {K : Kn} {x0 : Int64} {x2 : Int32} {q : Int64} {m : Mem} (hf : f_X3_shiftedDown x0 x2 = some q) : VV w RX3 cX3_shiftedDown 5 (some .long) rm_X3_shiftedDown false (QM w K (some (.long q)) m 0 0) K 0 [some (.long x0), none, some (.int x2), none, none] [] 0 0 m := by
  unfold f_X3_shiftedDown at hf
  refine vv_iload_n 1 dX3_shiftedDown_0 rfl rfl ?_
  refine vv_bipush 3 (v := 62) dX3_shiftedDown_1 rfl (by decide) ?_
  refine vv_icmp_le 18 6 dX3_shiftedDown_3 rfl (by decide) (fun c1 => ?_) (fun c1 => ?_)
  · rw [if_pos c1] at hf
    refine vv_lload_n 19 dX3_shiftedDown_18 rfl rfl ?_
    refine vv_lconst 20 (v := 1) dX3_shiftedDown_19 rfl (by decide) ?_
    refine vv_iload_n 21 dX3_shiftedDown_20 rfl rfl ?_
    refine vv_lshl 22 dX3_shiftedDown_21 rfl ?_
    refine vv_lconst 23 (v := 1) dX3_shiftedDown_22 rfl (by decide) ?_
    refine vv_lsub 24 dX3_shiftedDown_23 rfl ?_
    refine vv_land 25 dX3_shiftedDown_24 rfl ?_
    obtain ⟨z2, e_z2, hf⟩ := bd_s hf
    refine vv_lstore_nE (q := 26) (v := z2) (L' := [some (.long x0), none, some (.int x2), some (.long z2), none]) e_z2 dX3_shiftedDown_25 rfl (Nat.le_of_ble_eq_true rfl) rfl ?_
    refine vv_lload_n 27 dX3_shiftedDown_26 rfl rfl ?_
    refine vv_iload_n 28 dX3_shiftedDown_27 rfl rfl ?_
    refine vv_lushr 29 dX3_shiftedDown_28 rfl ?_
    refine vv_lload_n 30 dX3_shiftedDown_29 rfl rfl ?_
    refine vv_lconst 31 (v := 0) dX3_shiftedDown_30 rfl (by decide) ?_
    refine vv_lcmp 32 dX3_shiftedDown_31 rfl ?_
    refine vv_if_ne 39 35 dX3_shiftedDown_32 rfl (by decide) (fun c3 => ?_) (fun c3 => ?_)
    · rw [if_pos c3] at hf
      refine vv_iconst 36 (v := 0) dX3_shiftedDown_35 rfl (by decide) ?_
      refine vv_goto 40 dX3_shiftedDown_36 (by decide) ?_
      exact VV.lle (v_X3_shiftedDown_40 hf) (lle_n (lle_s (lle_n (lle_n (lle_s lle_nil)))))
    · rw [if_neg c3] at hf
      refine vv_iconst 40 (v := 1) dX3_shiftedDown_39 rfl (by decide) ?_
      exact VV.lle (v_X3_shiftedDown_40 hf) (lle_n (lle_s (lle_n (lle_n (lle_s lle_nil)))))
  · rw [if_neg c1] at hf
    refine vv_lload_n 7 dX3_shiftedDown_6 rfl rfl ?_
    refine vv_lconst 8 (v := 0) dX3_shiftedDown_7 rfl (by decide) ?_
    refine vv_lcmp 9 dX3_shiftedDown_8 rfl ?_
    refine vv_if_ne 16 12 dX3_shiftedDown_9 rfl (by decide) (fun c4 => ?_) (fun c4 => ?_)
    · rw [if_pos c4] at hf
      refine vv_lconst 13 (v := 0) dX3_shiftedDown_12 rfl (by decide) ?_
      refine vv_goto 17 dX3_shiftedDown_13 (by decide) ?_
      obtain rfl := Option.some.inj hf
      exact vv_lret dX3_shiftedDown_17 rfl
    · rw [if_neg c4] at hf
      refine vv_lconst 17 (v := 1) dX3_shiftedDown_16 rfl (by decide) ?_
      obtain rfl := Option.some.inj hf
      exact vv_lret dX3_shiftedDown_17 rfl

theorem c_X3_shiftedDown {w : Wo} {K : Kn} {x0 : Int64} {x2 : Int32} {q : Int64} {m : Mem} (hf : F_X3_shiftedDown x0 x2 = some q) : MM w K K yX3_shiftedDown cX3_shiftedDown 5 (some .long) rm_X3_shiftedDown [.long x0, .int x2] m (some (.long q)) m 0 0 :=
  mm_of (ini := false) (n := 2) (plainFor_of_name (by decide)) rfl (fun h => by first | rfl | cases h) (Nat.le_of_ble_eq_true rfl) rfl (v_X3_shiftedDown_0 hf)

set_option maxHeartbeats 4000000 in
theorem v_J9_min_f86c9_0 {w : Wo} {K : Kn} {x0 : Int64} {x2 : Int64} {q : Int64} {m : Mem} (hf : f_J9_min_f86c9 x0 x2 = some q) : VV w RJ9 cJ9_min_f86c9 4 (some .long) rm_J9_min_f86c9 false (QM w K (some (.long q)) m 0 0) K 0 [some (.long x0), none, some (.long x2), none] [] 0 0 m := by
  unfold f_J9_min_f86c9 at hf
  refine vv_lload_n 1 dJ9_min_f86c9_0 rfl rfl ?_
  refine vv_lload_n 2 dJ9_min_f86c9_1 rfl rfl ?_
  refine vv_lcmp 3 dJ9_min_f86c9_2 rfl ?_
  refine vv_if_gt 10 6 dJ9_min_f86c9_3 rfl (by decide) (fun c1 => ?_) (fun c1 => ?_)
  · rw [if_pos c1] at hf
    refine vv_lload_n 11 dJ9_min_f86c9_10 rfl rfl ?_
    obtain rfl := Option.some.inj hf
    exact vv_lret dJ9_min_f86c9_11 rfl
  · rw [if_neg c1] at hf
    refine vv_lload_n 7 dJ9_min_f86c9_6 rfl rfl ?_
    refine vv_goto 11 dJ9_min_f86c9_7 (by decide) ?_
    obtain rfl := Option.some.inj hf
    exact vv_lret dJ9_min_f86c9_11 rfl

theorem c_J9_min_f86c9 {w : Wo} {K : Kn} {x0 : Int64} {x2 : Int64} {q : Int64} {m : Mem} (hf : F_J9_min_f86c9 x0 x2 = some q) : MM w K K yJ9_min_f86c9 cJ9_min_f86c9 4 (some .long) rm_J9_min_f86c9 [.long x0, .long x2] m (some (.long q)) m 0 0 :=
  mm_of (ini := false) (n := 0) (by decide +kernel) rfl (fun h => by first | rfl | cases h) (Nat.le_of_ble_eq_true rfl) rfl (v_J9_min_f86c9_0 hf)

set_option maxHeartbeats 4000000 in
theorem v_X3_roundedOff_155 {w : Wo} {K : Kn} {x0 : Int64} {x2 : Int32} {x3 : Int64} {q : Int64} {m : Mem} {s0 : Int64} (hf : f_X3_roundedOff_155 x0 x2 x3 s0 = some q) : VV w RX3 cX3_roundedOff 15 (some .long) rm_X3_roundedOff false (QM w K (some (.long q)) m 0 0) K 155 [some (.long x0), none, none, none, none, none, none, none, none, none, none, none, none, none, none] [.long s0] 0 0 m := by
  unfold f_X3_roundedOff_155 at hf
  refine vv_lstore 157 (L' := [some (.long x0), none, none, none, none, none, none, none, none, none, none, none, none, some (.long s0), none]) dX3_roundedOff_155 rfl (Nat.le_of_ble_eq_true rfl) rfl ?_
  refine vv_lload_n 158 dX3_roundedOff_157 rfl rfl ?_
  refine vv_lload 160 dX3_roundedOff_158 rfl rfl ?_
  refine vv_ldc2 163 (v := 9218868437227405312) dX3_roundedOff_160 rfl w_837 ?_
  obtain ⟨q1, g_q1, hf⟩ := bind_s hf
  refine vv_callS 166 (st := [.long x0]) (As := [.long s0, .long (9218868437227405312 : Int64)]) (stk2 := [.long q1, .long x0]) (cl2 := 0) (sl2 := 0) dX3_roundedOff_163 rfl lk_RX3_63 w_918 ⟨(Nat.le_of_ble_eq_true rfl), (Nat.le_of_ble_eq_true rfl)⟩ rfl rfl ⟨(Nat.le_of_ble_eq_true rfl), (Nat.le_of_ble_eq_true rfl)⟩ rfl (Nat.le_of_ble_eq_true rfl) rfl rfl rfl rfl (c_J9_min_f86c9 g_q1) ?_
  refine vv_lor 167 dX3_roundedOff_166 rfl ?_
  obtain rfl := Option.some.inj hf
  exact vv_lret dX3_roundedOff_167 rfl

set_option maxHeartbeats 4000000 in
theorem v_X3_roundedOff_130 {w : Wo} {K : Kn} {x0 : Int64} {x2 : Int32} {x3 : Int64} {q : Int64} {m : Mem} {x6 : Int32} {x7 : Int64} (hf : f_X3_roundedOff_130 x0 x2 x3 x6 x7 = some q) : VV w RX3 cX3_roundedOff 15 (some .long) rm_X3_roundedOff false (QM w K (some (.long q)) m 0 0) K 130 [some (.long x0), none, none, none, none, none, some (.int x6), some (.long x7), none, none, none, none, none, none, none] [] 0 0 m := by
  unfold f_X3_roundedOff_130 at hf
  refine vv_iload 132 dX3_roundedOff_130 rfl rfl ?_
  refine vv_sipush 135 (v := 2047) dX3_roundedOff_132 rfl (by decide) ?_
  refine vv_icmp_lt 144 138 dX3_roundedOff_135 rfl (by decide) (fun c1 => ?_) (fun c1 => ?_)
  · rw [if_pos c1] at hf
    refine vv_iload 146 dX3_roundedOff_144 rfl rfl ?_
    refine vv_iconst 147 (v := 1) dX3_roundedOff_146 rfl (by decide) ?_
    refine vv_isub 148 dX3_roundedOff_147 rfl ?_
    refine vv_i2l 149 dX3_roundedOff_148 rfl ?_
    refine vv_bipush 151 (v := 52) dX3_roundedOff_149 rfl (by decide) ?_
    refine vv_lshl 152 dX3_roundedOff_151 rfl ?_
    refine vv_lload 154 dX3_roundedOff_152 rfl rfl ?_
    refine vv_ladd 155 dX3_roundedOff_154 rfl ?_
    exact VV.lle (v_X3_roundedOff_155 hf) (lle_s (lle_s (lle_s (lle_s (lle_s (lle_s (lle_n (lle_n (lle_s (lle_s (lle_s (lle_s (lle_s (lle_s (lle_s lle_nil)))))))))))))))
  · rw [if_neg c1] at hf
    refine vv_ldc2 141 (v := 9218868437227405312) dX3_roundedOff_138 rfl w_837 ?_
    refine vv_goto 155 dX3_roundedOff_141 (by decide) ?_
    exact VV.lle (v_X3_roundedOff_155 hf) (lle_s (lle_s (lle_s (lle_s (lle_s (lle_s (lle_n (lle_n (lle_s (lle_s (lle_s (lle_s (lle_s (lle_s (lle_s lle_nil)))))))))))))))

set_option maxHeartbeats 4000000 in
theorem v_X3_roundedOff_124 {w : Wo} {K : Kn} {x0 : Int64} {x2 : Int32} {x3 : Int64} {q : Int64} {m : Mem} {x6 : Int32} {x7 : Int64} (hf : f_X3_roundedOff_124 x0 x2 x3 x6 x7 = some q) : VV w RX3 cX3_roundedOff 15 (some .long) rm_X3_roundedOff false (QM w K (some (.long q)) m 0 0) K 124 [some (.long x0), none, none, none, none, none, some (.int x6), some (.long x7), none, none, none, none, none, none, none] [] 0 0 m := by
  unfold f_X3_roundedOff_124 at hf
  refine vv_lload 126 dX3_roundedOff_124 rfl rfl ?_
  refine vv_lconst 127 (v := 1) dX3_roundedOff_126 rfl (by decide) ?_
  refine vv_ladd 128 dX3_roundedOff_127 rfl ?_
  obtain ⟨z1, e_z1, hf⟩ := bd_s hf
  refine vv_lstoreE (q := 130) (v := z1) (L' := [some (.long x0), none, none, none, none, none, some (.int x6), some (.long z1), none, none, none, none, none, none, none]) e_z1 dX3_roundedOff_128 rfl (Nat.le_of_ble_eq_true rfl) rfl ?_
  exact v_X3_roundedOff_130 hf

set_option maxHeartbeats 4000000 in
theorem v_X3_roundedOff_70 {w : Wo} {K : Kn} {x0 : Int64} {x2 : Int32} {x3 : Int64} {q : Int64} {m : Mem} {x6 : Int32} {x7 : Int64} (hf : f_X3_roundedOff_70 x0 x2 x3 x6 x7 = some q) : VV w RX3 cX3_roundedOff 15 (some .long) rm_X3_roundedOff false (QM w K (some (.long q)) m 0 0) K 70 [some (.long x0), none, none, none, none, none, some (.int x6), some (.long x7), none, none, none, none, none, none, none] [] 0 0 m := by
  unfold f_X3_roundedOff_70 at hf
  refine vv_lload 72 dX3_roundedOff_70 rfl rfl ?_
  refine vv_lconst 73 (v := 0) dX3_roundedOff_72 rfl (by decide) ?_
  refine vv_lcmp 74 dX3_roundedOff_73 rfl ?_
  refine vv_if_ne 79 77 dX3_roundedOff_74 rfl (by decide) (fun c1 => ?_) (fun c1 => ?_)
  · rw [if_pos c1] at hf
    refine vv_lload_n 78 dX3_roundedOff_77 rfl rfl ?_
    obtain rfl := Option.some.inj hf
    exact vv_lret dX3_roundedOff_78 rfl
  · rw [if_neg c1] at hf
    refine vv_lload 81 dX3_roundedOff_79 rfl rfl ?_
    refine vv_ldc2 84 (v := 255) dX3_roundedOff_81 rfl w_915 ?_
    refine vv_land 85 dX3_roundedOff_84 rfl ?_
    obtain ⟨z2, e_z2, hf⟩ := bd_s hf
    refine vv_lstoreE (q := 87) (v := z2) (L' := [some (.long x0), none, none, none, none, none, some (.int x6), some (.long x7), none, some (.long z2), none, none, none, none, none]) e_z2 dX3_roundedOff_85 rfl (Nat.le_of_ble_eq_true rfl) rfl ?_
    refine vv_ldc2 90 (v := 128) dX3_roundedOff_87 rfl w_916 ?_
    refine vv_lstore 92 (L' := [some (.long x0), none, none, none, none, none, some (.int x6), some (.long x7), none, some (.long z2), none, some (.long (128 : Int64)), none, none, none]) dX3_roundedOff_90 rfl (Nat.le_of_ble_eq_true rfl) rfl ?_
    refine vv_lload 94 dX3_roundedOff_92 rfl rfl ?_
    refine vv_bipush 96 (v := 8) dX3_roundedOff_94 rfl (by decide) ?_
    refine vv_lushr 97 dX3_roundedOff_96 rfl ?_
    obtain ⟨z3, e_z3, hf⟩ := bd_s hf
    refine vv_lstoreE (q := 99) (v := z3) (L' := [some (.long x0), none, none, none, none, none, some (.int x6), some (.long z3), none, some (.long z2), none, some (.long (128 : Int64)), none, none, none]) e_z3 dX3_roundedOff_97 rfl (Nat.le_of_ble_eq_true rfl) rfl ?_
    refine vv_lload 101 dX3_roundedOff_99 rfl rfl ?_
    refine vv_lload 103 dX3_roundedOff_101 rfl rfl ?_
    refine vv_lcmp 104 dX3_roundedOff_103 rfl ?_
    refine vv_if_gt 124 107 dX3_roundedOff_104 rfl (by decide) (fun c4 => ?_) (fun c4 => ?_)
    · rw [if_pos c4] at hf
      exact VV.lle (v_X3_roundedOff_124 hf) (lle_s (lle_s (lle_s (lle_s (lle_s (lle_s (lle_s (lle_s (lle_s (lle_n (lle_s (lle_n (lle_s (lle_s (lle_s lle_nil)))))))))))))))
    · rw [if_neg c4] at hf
      refine vv_lload 109 dX3_roundedOff_107 rfl rfl ?_
      refine vv_lload 111 dX3_roundedOff_109 rfl rfl ?_
      refine vv_lcmp 112 dX3_roundedOff_111 rfl ?_
      refine vv_if_ne 130 115 dX3_roundedOff_112 rfl (by decide) (fun c5 => ?_) (fun c5 => ?_)
      · rw [if_pos c5] at hf
        refine vv_lload 117 dX3_roundedOff_115 rfl rfl ?_
        refine vv_lconst 118 (v := 1) dX3_roundedOff_117 rfl (by decide) ?_
        refine vv_land 119 dX3_roundedOff_118 rfl ?_
        refine vv_lconst 120 (v := 1) dX3_roundedOff_119 rfl (by decide) ?_
        refine vv_lcmp 121 dX3_roundedOff_120 rfl ?_
        refine vv_if_ne 130 124 dX3_roundedOff_121 rfl (by decide) (fun c6 => ?_) (fun c6 => ?_)
        · rw [if_pos c6] at hf
          exact VV.lle (v_X3_roundedOff_124 hf) (lle_s (lle_s (lle_s (lle_s (lle_s (lle_s (lle_s (lle_s (lle_s (lle_n (lle_s (lle_n (lle_s (lle_s (lle_s lle_nil)))))))))))))))
        · rw [if_neg c6] at hf
          exact VV.lle (v_X3_roundedOff_130 hf) (lle_s (lle_s (lle_s (lle_s (lle_s (lle_s (lle_s (lle_s (lle_s (lle_n (lle_s (lle_n (lle_s (lle_s (lle_s lle_nil)))))))))))))))
      · rw [if_neg c5] at hf
        exact VV.lle (v_X3_roundedOff_130 hf) (lle_s (lle_s (lle_s (lle_s (lle_s (lle_s (lle_s (lle_s (lle_s (lle_n (lle_s (lle_n (lle_s (lle_s (lle_s lle_nil)))))))))))))))

set_option maxHeartbeats 4000000 in
theorem v_X3_roundedOff_0 {w : Wo} {K : Kn} {x0 : Int64} {x2 : Int32} {x3 : Int64} {q : Int64} {m : Mem} (hf : f_X3_roundedOff x0 x2 x3 = some q) : VV w RX3 cX3_roundedOff 15 (some .long) rm_X3_roundedOff false (QM w K (some (.long q)) m 0 0) K 0 [some (.long x0), none, some (.int x2), some (.long x3), none, none, none, none, none, none, none, none, none, none, none] [] 0 0 m := by
  unfold f_X3_roundedOff at hf
  refine vv_bipush 2 (v := 60) dX3_roundedOff_0 rfl (by decide) ?_
  refine vv_istore 4 (L' := [some (.long x0), none, some (.int x2), some (.long x3), none, some (.int (60 : Int32)), none, none, none, none, none, none, none, none, none]) dX3_roundedOff_2 rfl (Nat.le_of_ble_eq_true rfl) rfl ?_
  refine vv_iload_n 5 dX3_roundedOff_4 rfl rfl ?_
  refine vv_istore 7 (L' := [some (.long x0), none, some (.int x2), some (.long x3), none, some (.int (60 : Int32)), some (.int x2), none, none, none, none, none, none, none, none]) dX3_roundedOff_5 rfl (Nat.le_of_ble_eq_true rfl) rfl ?_
  refine vv_lload_n 8 dX3_roundedOff_7 rfl rfl ?_
  refine vv_lstore 10 (L' := [some (.long x0), none, some (.int x2), some (.long x3), none, some (.int (60 : Int32)), some (.int x2), some (.long x3), none, none, none, none, none, none, none]) dX3_roundedOff_8 rfl (Nat.le_of_ble_eq_true rfl) rfl ?_
  refine vv_lload 12 dX3_roundedOff_10 rfl rfl ?_
  refine vv_iload 14 dX3_roundedOff_12 rfl rfl ?_
  refine vv_iconst 15 (v := 1) dX3_roundedOff_14 rfl (by decide) ?_
  refine vv_iadd 16 dX3_roundedOff_15 rfl ?_
  refine vv_lushr 17 dX3_roundedOff_16 rfl ?_
  refine vv_lconst 18 (v := 0) dX3_roundedOff_17 rfl (by decide) ?_
  refine vv_lcmp 19 dX3_roundedOff_18 rfl ?_
  refine vv_if_eq 36 22 dX3_roundedOff_19 rfl (by decide) (fun c1 => ?_) (fun c1 => ?_)
  · rw [if_pos c1] at hf
    refine vv_lload 38 dX3_roundedOff_36 rfl rfl ?_
    obtain ⟨q2, g_q2, hf⟩ := bind_s hf
    refine vv_callS 41 (st := []) (As := [.long x3]) (stk2 := [.int q2]) (cl2 := 0) (sl2 := 0) dX3_roundedOff_38 rfl lk_RX3_51 w_495 ⟨(Nat.le_of_ble_eq_true rfl), (Nat.le_of_ble_eq_true rfl)⟩ rfl rfl ⟨(Nat.le_of_ble_eq_true rfl), (Nat.le_of_ble_eq_true rfl)⟩ rfl (Nat.le_of_ble_eq_true rfl) rfl rfl rfl rfl (c_J13_numberOfLeadingZeros_95d88 g_q2) ?_
    refine vv_bipush 43 (v := 63) dX3_roundedOff_41 rfl (by decide) ?_
    refine vv_iload 45 dX3_roundedOff_43 rfl rfl ?_
    refine vv_isub 46 dX3_roundedOff_45 rfl ?_
    refine vv_isub 47 dX3_roundedOff_46 rfl ?_
    refine vv_iload 49 dX3_roundedOff_47 rfl rfl ?_
    refine vv_iconst 50 (v := 1) dX3_roundedOff_49 rfl (by decide) ?_
    refine vv_isub 51 dX3_roundedOff_50 rfl ?_
    obtain ⟨q3, g_q3, hf⟩ := bind_s hf
    refine vv_callS 54 (st := []) (As := [.int (q2 - ((63 : Int32) - (60 : Int32))), .int (x2 - (1 : Int32))]) (stk2 := [.int q3]) (cl2 := 0) (sl2 := 0) dX3_roundedOff_51 rfl lk_RX3_56 w_508 ⟨(Nat.le_of_ble_eq_true rfl), (Nat.le_of_ble_eq_true rfl)⟩ rfl rfl ⟨(Nat.le_of_ble_eq_true rfl), (Nat.le_of_ble_eq_true rfl)⟩ rfl (Nat.le_of_ble_eq_true rfl) rfl rfl rfl rfl (c_J9_min_7cf53 g_q3) ?_
    refine vv_istore 56 (L' := [some (.long x0), none, some (.int x2), some (.long x3), none, some (.int (60 : Int32)), some (.int x2), some (.long x3), none, some (.int q3), none, none, none, none, none]) dX3_roundedOff_54 rfl (Nat.le_of_ble_eq_true rfl) rfl ?_
    refine vv_lload 58 dX3_roundedOff_56 rfl rfl ?_
    refine vv_iload 60 dX3_roundedOff_58 rfl rfl ?_
    refine vv_lshl 61 dX3_roundedOff_60 rfl ?_
    obtain ⟨z4, e_z4, hf⟩ := bd_s hf
    refine vv_lstoreE (q := 63) (v := z4) (L' := [some (.long x0), none, some (.int x2), some (.long x3), none, some (.int (60 : Int32)), some (.int x2), some (.long z4), none, some (.int q3), none, none, none, none, none]) e_z4 dX3_roundedOff_61 rfl (Nat.le_of_ble_eq_true rfl) rfl ?_
    refine vv_iload 65 dX3_roundedOff_63 rfl rfl ?_
    refine vv_iload 67 dX3_roundedOff_65 rfl rfl ?_
    refine vv_isub 68 dX3_roundedOff_67 rfl ?_
    obtain ⟨z5, e_z5, hf⟩ := bd_s hf
    refine vv_istoreE (q := 70) (v := z5) (L' := [some (.long x0), none, some (.int x2), some (.long x3), none, some (.int (60 : Int32)), some (.int z5), some (.long z4), none, some (.int q3), none, none, none, none, none]) e_z5 dX3_roundedOff_68 rfl (Nat.le_of_ble_eq_true rfl) rfl ?_
    exact VV.lle (v_X3_roundedOff_70 hf) (lle_s (lle_s (lle_n (lle_n (lle_s (lle_n (lle_s (lle_s (lle_s (lle_n (lle_s (lle_s (lle_s (lle_s (lle_s lle_nil)))))))))))))))
  · rw [if_neg c1] at hf
    refine vv_lload 24 dX3_roundedOff_22 rfl rfl ?_
    refine vv_iconst 25 (v := 1) dX3_roundedOff_24 rfl (by decide) ?_
    obtain ⟨q6, g_q6, hf⟩ := bind_s hf
    refine vv_callS 28 (st := []) (As := [.long x3, .int (1 : Int32)]) (stk2 := [.long q6]) (cl2 := 0) (sl2 := 0) dX3_roundedOff_25 rfl lk_RX3_39 w_907 ⟨(Nat.le_of_ble_eq_true rfl), (Nat.le_of_ble_eq_true rfl)⟩ rfl rfl ⟨(Nat.le_of_ble_eq_true rfl), (Nat.le_of_ble_eq_true rfl)⟩ rfl (Nat.le_of_ble_eq_true rfl) rfl rfl rfl rfl (c_X3_shiftedDown g_q6) ?_
    refine vv_lstore 30 (L' := [some (.long x0), none, some (.int x2), some (.long x3), none, some (.int (60 : Int32)), some (.int x2), some (.long q6), none, none, none, none, none, none, none]) dX3_roundedOff_28 rfl (Nat.le_of_ble_eq_true rfl) rfl ?_
    obtain ⟨z7, e_z7, hf⟩ := bd_s hf
    refine vv_iincE (q := 33) (v := z7) (c := 1) (L' := [some (.long x0), none, some (.int x2), some (.long x3), none, some (.int (60 : Int32)), some (.int z7), some (.long q6), none, none, none, none, none, none, none]) e_z7 dX3_roundedOff_30 rfl rfl (by decide) (Nat.le_of_ble_eq_true rfl) rfl ?_
    refine vv_goto 70 dX3_roundedOff_33 (by decide) ?_
    exact VV.lle (v_X3_roundedOff_70 hf) (lle_s (lle_s (lle_n (lle_n (lle_s (lle_n (lle_s (lle_s (lle_s (lle_s (lle_s (lle_s (lle_s (lle_s (lle_s lle_nil)))))))))))))))

theorem c_X3_roundedOff {w : Wo} {K : Kn} {x0 : Int64} {x2 : Int32} {x3 : Int64} {q : Int64} {m : Mem} (hf : F_X3_roundedOff x0 x2 x3 = some q) : MM w K K yX3_roundedOff cX3_roundedOff 15 (some .long) rm_X3_roundedOff [.long x0, .int x2, .long x3] m (some (.long q)) m 0 0 :=
  mm_of (ini := false) (n := 10) (plainFor_of_name (by decide)) rfl (fun h => by first | rfl | cases h) (Nat.le_of_ble_eq_true rfl) rfl (v_X3_roundedOff_0 hf)

set_option maxHeartbeats 4000000 in
theorem v_X3_plus_26 {w : Wo} {K : Kn} {x0 : Int64} {x2 : Int64} {q : Int64} {m : Mem} (hf : f_X3_plus_26 x0 x2 = some q) : VV w RX3 cX3_plus 14 (some .long) rm_X3_plus false (QM w K (some (.long q)) m 0 0) K 26 [some (.long x0), none, none, none, none, none, none, none, none, none, none, none, none, none] [] 0 0 m := by
  unfold f_X3_plus_26 at hf
  refine vv_lload_n 27 dX3_plus_26 rfl rfl ?_
  obtain rfl := Option.some.inj hf
  exact vv_lret dX3_plus_27 rfl

set_option maxHeartbeats 4000000 in
theorem v_X3_plus_80 {w : Wo} {K : Kn} {x0 : Int64} {x2 : Int64} {q : Int64} {m : Mem} {x5 : Int64} {s0 : Int64} (hf : f_X3_plus_80 x0 x2 x5 s0 = some q) : VV w RX3 cX3_plus 14 (some .long) rm_X3_plus false (QM w K (some (.long q)) m 0 0) K 80 [some (.long x0), none, some (.long x2), none, none, some (.long x5), none, none, none, none, none, none, none, none] [.long s0] 0 0 m := by
  unfold f_X3_plus_80 at hf
  refine vv_lstore 82 (L' := [some (.long x0), none, some (.long x2), none, none, some (.long x5), none, some (.long s0), none, none, none, none, none, none]) dX3_plus_80 rfl (Nat.le_of_ble_eq_true rfl) rfl ?_
  refine vv_lload 84 dX3_plus_82 rfl rfl ?_
  obtain ⟨q1, g_q1, hf⟩ := bind_s hf
  refine vv_callS 87 (st := []) (As := [.long x5]) (stk2 := [.int q1]) (cl2 := 0) (sl2 := 0) dX3_plus_84 rfl lk_RX3_31 w_898 ⟨(Nat.le_of_ble_eq_true rfl), (Nat.le_of_ble_eq_true rfl)⟩ rfl rfl ⟨(Nat.le_of_ble_eq_true rfl), (Nat.le_of_ble_eq_true rfl)⟩ rfl (Nat.le_of_ble_eq_true rfl) rfl rfl rfl rfl (c_X3_exponent g_q1) ?_
  refine vv_istore 89 (L' := [some (.long x0), none, some (.long x2), none, none, some (.long x5), none, some (.long s0), none, some (.int q1), none, none, none, none]) dX3_plus_87 rfl (Nat.le_of_ble_eq_true rfl) rfl ?_
  refine vv_lload 91 dX3_plus_89 rfl rfl ?_
  obtain ⟨q2, g_q2, hf⟩ := bind_s hf
  refine vv_callS 94 (st := []) (As := [.long x5]) (stk2 := [.long q2]) (cl2 := 0) (sl2 := 0) dX3_plus_91 rfl lk_RX3_35 w_902 ⟨(Nat.le_of_ble_eq_true rfl), (Nat.le_of_ble_eq_true rfl)⟩ rfl rfl ⟨(Nat.le_of_ble_eq_true rfl), (Nat.le_of_ble_eq_true rfl)⟩ rfl (Nat.le_of_ble_eq_true rfl) rfl rfl rfl rfl (c_X3_fraction g_q2) ?_
  refine vv_bipush 96 (v := 8) dX3_plus_94 rfl (by decide) ?_
  refine vv_lshl 97 dX3_plus_96 rfl ?_
  obtain ⟨z3, e_z3, hf⟩ := bd_s hf
  refine vv_lstoreE (q := 99) (v := z3) (L' := [some (.long x0), none, some (.long x2), none, none, some (.long x5), none, some (.long s0), none, some (.int q1), some (.long z3), none, none, none]) e_z3 dX3_plus_97 rfl (Nat.le_of_ble_eq_true rfl) rfl ?_
  refine vv_lload 101 dX3_plus_99 rfl rfl ?_
  obtain ⟨q4, g_q4, hf⟩ := bind_s hf
  refine vv_callS 104 (st := []) (As := [.long s0]) (stk2 := [.long q4]) (cl2 := 0) (sl2 := 0) dX3_plus_101 rfl lk_RX3_35 w_902 ⟨(Nat.le_of_ble_eq_true rfl), (Nat.le_of_ble_eq_true rfl)⟩ rfl rfl ⟨(Nat.le_of_ble_eq_true rfl), (Nat.le_of_ble_eq_true rfl)⟩ rfl (Nat.le_of_ble_eq_true rfl) rfl rfl rfl rfl (c_X3_fraction g_q4) ?_
  refine vv_bipush 106 (v := 8) dX3_plus_104 rfl (by decide) ?_
  refine vv_lshl 107 dX3_plus_106 rfl ?_
  refine vv_iload 109 dX3_plus_107 rfl rfl ?_
  refine vv_lload 111 dX3_plus_109 rfl rfl ?_
  obtain ⟨q5, g_q5, hf⟩ := bind_s hf
  refine vv_callS 114 (st := [.int q1, .long (lshl q4 (8 : Int32))]) (As := [.long s0]) (stk2 := [.int q5, .int q1, .long (lshl q4 (8 : Int32))]) (cl2 := 0) (sl2 := 0) dX3_plus_111 rfl lk_RX3_31 w_898 ⟨(Nat.le_of_ble_eq_true rfl), (Nat.le_of_ble_eq_true rfl)⟩ rfl rfl ⟨(Nat.le_of_ble_eq_true rfl), (Nat.le_of_ble_eq_true rfl)⟩ rfl (Nat.le_of_ble_eq_true rfl) rfl rfl rfl rfl (c_X3_exponent g_q5) ?_
  refine vv_isub 115 dX3_plus_114 rfl ?_
  obtain ⟨q6, g_q6, hf⟩ := bind_s hf
  refine vv_callS 118 (st := []) (As := [.long (lshl q4 (8 : Int32)), .int (q1 - q5)]) (stk2 := [.long q6]) (cl2 := 0) (sl2 := 0) dX3_plus_115 rfl lk_RX3_39 w_907 ⟨(Nat.le_of_ble_eq_true rfl), (Nat.le_of_ble_eq_true rfl)⟩ rfl rfl ⟨(Nat.le_of_ble_eq_true rfl), (Nat.le_of_ble_eq_true rfl)⟩ rfl (Nat.le_of_ble_eq_true rfl) rfl rfl rfl rfl (c_X3_shiftedDown g_q6) ?_
  refine vv_lstore 120 (L' := [some (.long x0), none, some (.long x2), none, none, some (.long x5), none, some (.long s0), none, some (.int q1), some (.long z3), none, some (.long q6), none]) dX3_plus_118 rfl (Nat.le_of_ble_eq_true rfl) rfl ?_
  refine vv_lload_n 121 dX3_plus_120 rfl rfl ?_
  refine vv_lload_n 122 dX3_plus_121 rfl rfl ?_
  refine vv_lxor 123 dX3_plus_122 rfl ?_
  refine vv_lconst 124 (v := 0) dX3_plus_123 rfl (by decide) ?_
  refine vv_lcmp 125 dX3_plus_124 rfl ?_
  refine vv_if_lt 145 128 dX3_plus_125 rfl (by decide) (fun c7 => ?_) (fun c7 => ?_)
  · rw [if_pos c7] at hf
    refine vv_lload 147 dX3_plus_145 rfl rfl ?_
    refine vv_lload 149 dX3_plus_147 rfl rfl ?_
    refine vv_lcmp 150 dX3_plus_149 rfl ?_
    refine vv_if_ne 157 153 dX3_plus_150 rfl (by decide) (fun c8 => ?_) (fun c8 => ?_)
    · rw [if_pos c8] at hf
      refine vv_lconst 154 (v := 0) dX3_plus_153 rfl (by decide) ?_
      refine vv_goto 173 dX3_plus_154 (by decide) ?_
      obtain rfl := Option.some.inj hf
      exact vv_lret dX3_plus_173 rfl
    · rw [if_neg c8] at hf
      refine vv_lload 159 dX3_plus_157 rfl rfl ?_
      refine vv_ldc2 162 (v := (-9223372036854775808)) dX3_plus_159 rfl w_909 ?_
      refine vv_land 163 dX3_plus_162 rfl ?_
      refine vv_iload 165 dX3_plus_163 rfl rfl ?_
      refine vv_lload 167 dX3_plus_165 rfl rfl ?_
      refine vv_lload 169 dX3_plus_167 rfl rfl ?_
      refine vv_lsub 170 dX3_plus_169 rfl ?_
      obtain ⟨q9, g_q9, hf⟩ := bind_s hf
      refine vv_callS 173 (st := []) (As := [.long (x5 &&& (-9223372036854775808 : Int64)), .int q1, .long (z3 - q6)]) (stk2 := [.long q9]) (cl2 := 0) (sl2 := 0) dX3_plus_170 rfl lk_RX3_45 w_911 ⟨(Nat.le_of_ble_eq_true rfl), (Nat.le_of_ble_eq_true rfl)⟩ rfl rfl ⟨(Nat.le_of_ble_eq_true rfl), (Nat.le_of_ble_eq_true rfl)⟩ rfl (Nat.le_of_ble_eq_true rfl) rfl rfl rfl rfl (c_X3_roundedOff g_q9) ?_
      obtain rfl := Option.some.inj hf
      exact vv_lret dX3_plus_173 rfl
  · rw [if_neg c7] at hf
    refine vv_lload 130 dX3_plus_128 rfl rfl ?_
    refine vv_ldc2 133 (v := (-9223372036854775808)) dX3_plus_130 rfl w_909 ?_
    refine vv_land 134 dX3_plus_133 rfl ?_
    refine vv_iload 136 dX3_plus_134 rfl rfl ?_
    refine vv_lload 138 dX3_plus_136 rfl rfl ?_
    refine vv_lload 140 dX3_plus_138 rfl rfl ?_
    refine vv_ladd 141 dX3_plus_140 rfl ?_
    obtain ⟨q10, g_q10, hf⟩ := bind_s hf
    refine vv_callS 144 (st := []) (As := [.long (x5 &&& (-9223372036854775808 : Int64)), .int q1, .long (z3 + q6)]) (stk2 := [.long q10]) (cl2 := 0) (sl2 := 0) dX3_plus_141 rfl lk_RX3_45 w_911 ⟨(Nat.le_of_ble_eq_true rfl), (Nat.le_of_ble_eq_true rfl)⟩ rfl rfl ⟨(Nat.le_of_ble_eq_true rfl), (Nat.le_of_ble_eq_true rfl)⟩ rfl (Nat.le_of_ble_eq_true rfl) rfl rfl rfl rfl (c_X3_roundedOff g_q10) ?_
    obtain rfl := Option.some.inj hf
    exact vv_lret dX3_plus_144 rfl

set_option maxHeartbeats 4000000 in
theorem v_X3_plus_68 {w : Wo} {K : Kn} {x0 : Int64} {x2 : Int64} {q : Int64} {m : Mem} {x4 : Int32} {s0 : Int64} (hf : f_X3_plus_68 x0 x2 x4 s0 = some q) : VV w RX3 cX3_plus 14 (some .long) rm_X3_plus false (QM w K (some (.long q)) m 0 0) K 68 [some (.long x0), none, some (.long x2), none, some (.int x4), none, none, none, none, none, none, none, none, none] [.long s0] 0 0 m := by
  unfold f_X3_plus_68 at hf
  refine vv_lstore 70 (L' := [some (.long x0), none, some (.long x2), none, some (.int x4), some (.long s0), none, none, none, none, none, none, none, none]) dX3_plus_68 rfl (Nat.le_of_ble_eq_true rfl) rfl ?_
  refine vv_iload 72 dX3_plus_70 rfl rfl ?_
  refine vv_if_eq 79 75 dX3_plus_72 rfl (by decide) (fun c1 => ?_) (fun c1 => ?_)
  · rw [if_pos c1] at hf
    refine vv_lload_n 80 dX3_plus_79 rfl rfl ?_
    exact VV.lle (v_X3_plus_80 hf) (lle_s (lle_s (lle_s (lle_s (lle_n (lle_s (lle_s (lle_s (lle_s (lle_s (lle_s (lle_s (lle_s (lle_s lle_nil))))))))))))))
  · rw [if_neg c1] at hf
    refine vv_lload_n 76 dX3_plus_75 rfl rfl ?_
    refine vv_goto 80 dX3_plus_76 (by decide) ?_
    exact VV.lle (v_X3_plus_80 hf) (lle_s (lle_s (lle_s (lle_s (lle_n (lle_s (lle_s (lle_s (lle_s (lle_s (lle_s (lle_s (lle_s (lle_s lle_nil))))))))))))))

set_option maxHeartbeats 4000000 in
theorem v_X3_plus_56 {w : Wo} {K : Kn} {x0 : Int64} {x2 : Int64} {q : Int64} {m : Mem} {s0 : Int32} (hf : f_X3_plus_56 x0 x2 s0 = some q) : VV w RX3 cX3_plus 14 (some .long) rm_X3_plus false (QM w K (some (.long q)) m 0 0) K 56 [some (.long x0), none, some (.long x2), none, none, none, none, none, none, none, none, none, none, none] [.int s0] 0 0 m := by
  unfold f_X3_plus_56 at hf
  refine vv_istore 58 (L' := [some (.long x0), none, some (.long x2), none, some (.int s0), none, none, none, none, none, none, none, none, none]) dX3_plus_56 rfl (Nat.le_of_ble_eq_true rfl) rfl ?_
  refine vv_iload 60 dX3_plus_58 rfl rfl ?_
  refine vv_if_eq 67 63 dX3_plus_60 rfl (by decide) (fun c1 => ?_) (fun c1 => ?_)
  · rw [if_pos c1] at hf
    refine vv_lload_n 68 dX3_plus_67 rfl rfl ?_
    exact v_X3_plus_68 hf
  · rw [if_neg c1] at hf
    refine vv_lload_n 64 dX3_plus_63 rfl rfl ?_
    refine vv_goto 68 dX3_plus_64 (by decide) ?_
    exact v_X3_plus_68 hf

set_option maxHeartbeats 4000000 in
theorem v_X3_plus_0 {w : Wo} {K : Kn} {x0 : Int64} {x2 : Int64} {q : Int64} {m : Mem} (hf : f_X3_plus x0 x2 = some q) : VV w RX3 cX3_plus 14 (some .long) rm_X3_plus false (QM w K (some (.long q)) m 0 0) K 0 [some (.long x0), none, some (.long x2), none, none, none, none, none, none, none, none, none, none, none] [] 0 0 m := by
  unfold f_X3_plus at hf
  refine vv_lload_n 1 dX3_plus_0 rfl rfl ?_
  obtain ⟨q1, g_q1, hf⟩ := bind_s hf
  refine vv_callS 4 (st := []) (As := [.long x0]) (stk2 := [.int q1]) (cl2 := 0) (sl2 := 0) dX3_plus_1 rfl lk_RX3_25 w_864 ⟨(Nat.le_of_ble_eq_true rfl), (Nat.le_of_ble_eq_true rfl)⟩ rfl rfl ⟨(Nat.le_of_ble_eq_true rfl), (Nat.le_of_ble_eq_true rfl)⟩ rfl (Nat.le_of_ble_eq_true rfl) rfl rfl rfl rfl (c_X3_isInfinite g_q1) ?_
  refine vv_if_eq 28 7 dX3_plus_4 rfl (by decide) (fun c2 => ?_) (fun c2 => ?_)
  · rw [if_pos c2] at hf
    refine vv_lload_n 29 dX3_plus_28 rfl rfl ?_
    obtain ⟨q3, g_q3, hf⟩ := bind_s hf
    refine vv_callS 32 (st := []) (As := [.long x2]) (stk2 := [.int q3]) (cl2 := 0) (sl2 := 0) dX3_plus_29 rfl lk_RX3_25 w_864 ⟨(Nat.le_of_ble_eq_true rfl), (Nat.le_of_ble_eq_true rfl)⟩ rfl rfl ⟨(Nat.le_of_ble_eq_true rfl), (Nat.le_of_ble_eq_true rfl)⟩ rfl (Nat.le_of_ble_eq_true rfl) rfl rfl rfl rfl (c_X3_isInfinite g_q3) ?_
    refine vv_if_eq 37 35 dX3_plus_32 rfl (by decide) (fun c4 => ?_) (fun c4 => ?_)
    · rw [if_pos c4] at hf
      refine vv_lload_n 38 dX3_plus_37 rfl rfl ?_
      refine vv_ldc2 41 (v := 9223372036854775807) dX3_plus_38 rfl w_836 ?_
      refine vv_land 42 dX3_plus_41 rfl ?_
      refine vv_lload_n 43 dX3_plus_42 rfl rfl ?_
      refine vv_ldc2 46 (v := 9223372036854775807) dX3_plus_43 rfl w_836 ?_
      refine vv_land 47 dX3_plus_46 rfl ?_
      refine vv_lcmp 48 dX3_plus_47 rfl ?_
      refine vv_if_lt 55 51 dX3_plus_48 rfl (by decide) (fun c5 => ?_) (fun c5 => ?_)
      · rw [if_pos c5] at hf
        refine vv_iconst 56 (v := 0) dX3_plus_55 rfl (by decide) ?_
        exact v_X3_plus_56 hf
      · rw [if_neg c5] at hf
        refine vv_iconst 52 (v := 1) dX3_plus_51 rfl (by decide) ?_
        refine vv_goto 56 dX3_plus_52 (by decide) ?_
        exact v_X3_plus_56 hf
    · rw [if_neg c4] at hf
      refine vv_lload_n 36 dX3_plus_35 rfl rfl ?_
      obtain rfl := Option.some.inj hf
      exact vv_lret dX3_plus_36 rfl
  · rw [if_neg c2] at hf
    refine vv_lload_n 8 dX3_plus_7 rfl rfl ?_
    obtain ⟨q6, g_q6, hf⟩ := bind_s hf
    refine vv_callS 11 (st := []) (As := [.long x2]) (stk2 := [.int q6]) (cl2 := 0) (sl2 := 0) dX3_plus_8 rfl lk_RX3_25 w_864 ⟨(Nat.le_of_ble_eq_true rfl), (Nat.le_of_ble_eq_true rfl)⟩ rfl rfl ⟨(Nat.le_of_ble_eq_true rfl), (Nat.le_of_ble_eq_true rfl)⟩ rfl (Nat.le_of_ble_eq_true rfl) rfl rfl rfl rfl (c_X3_isInfinite g_q6) ?_
    refine vv_if_eq 26 14 dX3_plus_11 rfl (by decide) (fun c7 => ?_) (fun c7 => ?_)
    · rw [if_pos c7] at hf
      exact VV.lle (v_X3_plus_26 hf) (lle_s (lle_s (lle_n (lle_s (lle_s (lle_s (lle_s (lle_s (lle_s (lle_s (lle_s (lle_s (lle_s (lle_s lle_nil))))))))))))))
    · rw [if_neg c7] at hf
      refine vv_lload_n 15 dX3_plus_14 rfl rfl ?_
      refine vv_lload_n 16 dX3_plus_15 rfl rfl ?_
      refine vv_lcmp 17 dX3_plus_16 rfl ?_
      refine vv_if_eq 26 20 dX3_plus_17 rfl (by decide) (fun c8 => ?_) (fun c8 => ?_)
      · rw [if_pos c8] at hf
        exact VV.lle (v_X3_plus_26 hf) (lle_s (lle_s (lle_n (lle_s (lle_s (lle_s (lle_s (lle_s (lle_s (lle_s (lle_s (lle_s (lle_s (lle_s lle_nil))))))))))))))
      · rw [if_neg c8] at hf
        refine vv_ldc2 23 (v := 9221120237041090560) dX3_plus_20 rfl w_896 ?_
        refine vv_goto 27 dX3_plus_23 (by decide) ?_
        obtain rfl := Option.some.inj hf
        exact vv_lret dX3_plus_27 rfl

theorem c_X3_plus {w : Wo} {K : Kn} {x0 : Int64} {x2 : Int64} {q : Int64} {m : Mem} (hf : F_X3_plus x0 x2 = some q) : MM w K K yX3_plus cX3_plus 14 (some .long) rm_X3_plus [.long x0, .long x2] m (some (.long q)) m 0 0 :=
  mm_of (ini := false) (n := 10) (plainFor_of_name (by decide)) rfl (fun h => by first | rfl | cases h) (Nat.le_of_ble_eq_true rfl) rfl (v_X3_plus_0 hf)

set_option maxHeartbeats 4000000 in
theorem v_X5_total_37 {w : Wo} {K : Kn} {a0 : Nat} {q : Int64} {m : Mem} (t_a0 : K a0 = some (.inl 4)) {x1 : Int64} (hf : f_X5_total_37 K m a0 x1 = some q) : VV w RX5 cX5_total 4 (some .long) rm_X5_total false (QM w K (some (.long q)) m 0 0) K 37 [none, some (.long x1), none, none] [] 0 0 m := by
  unfold f_X5_total_37 at hf
  refine vv_lload_n 38 dX5_total_37 rfl rfl ?_
  obtain rfl := Option.some.inj hf
  exact vv_lret dX5_total_38 rfl

set_option maxHeartbeats 4000000 in
theorem v_X5_total_4B {w : Wo} {K : Kn} {a0 : Nat} {q : Int64} {m : Mem} (t_a0 : K a0 = some (.inl 4)) (k4 : Int64 → Int32 → Option Int64) (hk4 : ∀ (x1 : Int64) (x3 : Int32), k4 x1 x3 = some q → VV w RX5 cX5_total 4 (some .long) rm_X5_total false (QM w K (some (.long q)) m 0 0) K 4 [some (.ref a0), some (.long x1), none, some (.int x3)] [] 0 0 m) {x1 : Int64} {x3 : Int32} (hf : f_X5_total_4B K m a0 k4 x1 x3 = some q) : VV w RX5 cX5_total 4 (some .long) rm_X5_total false (QM w K (some (.long q)) m 0 0) K 4 [some (.ref a0), some (.long x1), none, some (.int x3)] [] 0 0 m := by
  unfold f_X5_total_4B at hf
  refine vv_iload_n 5 dX5_total_4 rfl rfl ?_
  refine vv_aload_n 6 dX5_total_5 rfl rfl ?_
  refine gf_RX5_19 9 dX5_total_6 rfl t_a0 ?_
  refine vv_icmp_ge 37 12 dX5_total_9 rfl (by decide) (fun c1 => ?_) (fun c1 => ?_)
  · rw [if_pos c1] at hf
    exact VV.lle (v_X5_total_37 t_a0 hf) (lle_n (lle_s (lle_s (lle_n lle_nil))))
  · rw [if_neg c1] at hf
    refine vv_lload_n 13 dX5_total_12 rfl rfl ?_
    refine vv_ldc2 16 (v := 9221120237041090560) dX5_total_13 rfl w_891 ?_
    refine vv_lcmp 17 dX5_total_16 rfl ?_
    refine vv_if_eq 37 20 dX5_total_17 rfl (by decide) (fun c2 => ?_) (fun c2 => ?_)
    · rw [if_pos c2] at hf
      exact VV.lle (v_X5_total_37 t_a0 hf) (lle_n (lle_s (lle_s (lle_n lle_nil))))
    · rw [if_neg c2] at hf
      refine vv_lload_n 21 dX5_total_20 rfl rfl ?_
      refine vv_aload_n 22 dX5_total_21 rfl rfl ?_
      obtain ⟨b3, g_b3, hf⟩ := bind_s hf
      have t_b3 := (ldA_spec g_b3).2
      refine gf_RX5_15 25 dX5_total_22 rfl t_a0 (ldA_spec g_b3).1 ?_
      refine vv_iload_n 26 dX5_total_25 rfl rfl ?_
      obtain ⟨r4, g_r4, hf⟩ := bind_s hf
      refine vv_lald 27 dX5_total_26 rfl t_b3 g_r4 ?_
      obtain ⟨q5, g_q5, hf⟩ := bind_s hf
      refine vv_callS 30 (st := []) (As := [.long x1, .long r4]) (stk2 := [.long q5]) (cl2 := 0) (sl2 := 0) dX5_total_27 rfl lk_RX5_74 w_893 ⟨(Nat.le_of_ble_eq_true rfl), (Nat.le_of_ble_eq_true rfl)⟩ rfl rfl ⟨(Nat.le_of_ble_eq_true rfl), (Nat.le_of_ble_eq_true rfl)⟩ rfl (Nat.le_of_ble_eq_true rfl) rfl rfl rfl rfl (c_X3_plus g_q5) ?_
      refine vv_lstore_n 31 (L' := [some (.ref a0), some (.long q5), none, some (.int x3)]) dX5_total_30 rfl (Nat.le_of_ble_eq_true rfl) rfl ?_
      obtain ⟨z6, e_z6, hf⟩ := bd_s hf
      refine vv_iincE (q := 34) (v := z6) (c := 1) (L' := [some (.ref a0), some (.long q5), none, some (.int z6)]) e_z6 dX5_total_31 rfl rfl (by decide) (Nat.le_of_ble_eq_true rfl) rfl ?_
      refine vv_goto 4 dX5_total_34 (by decide) ?_
      exact hk4 _ _ hf

theorem v_X5_total_4 {w : Wo} {K : Kn} {a0 : Nat} {q : Int64} {m : Mem} (t_a0 : K a0 = some (.inl 4)) : ∀ (n : Nat) (x1 : Int64) (x3 : Int32), f_X5_total_4 K m a0 n x1 x3 = some q → VV w RX5 cX5_total 4 (some .long) rm_X5_total false (QM w K (some (.long q)) m 0 0) K 4 [some (.ref a0), some (.long x1), none, some (.int x3)] [] 0 0 m := by
  intro n
  induction n with
  | zero => intro x1 x3 hf; cases hf
  | succ n ih => intro x1 x3 hf; exact v_X5_total_4B (a0 := a0) t_a0 (f_X5_total_4 K m a0 n) ih hf

set_option maxHeartbeats 4000000 in
theorem v_X5_total_0 {w : Wo} {K : Kn} {a0 : Nat} {q : Int64} {m : Mem} (t_a0 : K a0 = some (.inl 4)) (hf : f_X5_total K m a0 = some q) : VV w RX5 cX5_total 4 (some .long) rm_X5_total false (QM w K (some (.long q)) m 0 0) K 0 [some (.ref a0), none, none, none] [] 0 0 m := by
  unfold f_X5_total at hf
  refine vv_lconst 1 (v := 0) dX5_total_0 rfl (by decide) ?_
  refine vv_lstore_n 2 (L' := [some (.ref a0), some (.long (0 : Int64)), none, none]) dX5_total_1 rfl (Nat.le_of_ble_eq_true rfl) rfl ?_
  refine vv_iconst 3 (v := 0) dX5_total_2 rfl (by decide) ?_
  refine vv_istore_n 4 (L' := [some (.ref a0), some (.long (0 : Int64)), none, some (.int (0 : Int32))]) dX5_total_3 rfl (Nat.le_of_ble_eq_true rfl) rfl ?_
  exact v_X5_total_4 t_a0 FU _ _ hf

theorem c_X5_total {w : Wo} {K : Kn} {a0 : Nat} {q : Int64} {m : Mem} (t_a0 : K a0 = some (.inl 4)) (hf : F_X5_total K m a0 = some q) : MM w K K yX5_total cX5_total 4 (some .long) rm_X5_total [.ref a0] m (some (.long q)) m 0 0 :=
  mm_of (ini := false) (n := 3) (plainFor_of_name (by decide)) rfl (fun h => by first | rfl | cases h) (Nat.le_of_ble_eq_true rfl) rfl (v_X5_total_0 t_a0 hf)

set_option maxHeartbeats 4000000 in
theorem v_X8_value_144 {w : Wo} {K : Kn} {a0 : Nat} {x1 : Int32} {x2 : Int32} {x3 : Int32} {x4 : Int32} {q : (Int64 × Mem)} (t_a0 : K a0 = some (.inl 7)) {m : Mem} (hf : f_X8_value_144 K a0 x1 x2 x3 x4 m = some q) : VV w RX8 cX8_value 5 (some .long) rm_X8_value false (QM w K (some (.long q.1)) q.2 0 0) K 144 [some (.ref a0), none, none, none, none] [] 0 0 m := by
  unfold f_X8_value_144 at hf
  refine vv_aload_n 145 dX8_value_144 rfl rfl ?_
  obtain ⟨b1, g_b1, hf⟩ := bind_s hf
  have t_b1 := (ldO_spec g_b1).2
  refine gf_RX8_25 148 dX8_value_145 rfl t_a0 (ldO_spec g_b1).1 ?_
  obtain ⟨q2, g_q2, hf⟩ := bind_s hf
  refine vv_callV 151 (st := []) (As := []) (stk2 := [.long q2]) (cl2 := 0) (sl2 := 0) dX8_value_148 rfl lk_RX8_292 w_888 w_889 rfl t_b1 ⟨(Nat.le_of_ble_eq_true rfl), (Nat.le_of_ble_eq_true rfl)⟩ rfl rfl ⟨(Nat.le_of_ble_eq_true rfl), (Nat.le_of_ble_eq_true rfl)⟩ rfl (Nat.le_of_ble_eq_true rfl) rfl rfl rfl rfl (c_X5_total t_b1 g_q2) ?_
  obtain rfl := Option.some.inj hf
  exact vv_lret dX8_value_151 rfl

set_option maxHeartbeats 4000000 in
theorem v_X8_value_100 {w : Wo} {K : Kn} {a0 : Nat} {x1 : Int32} {x2 : Int32} {x3 : Int32} {x4 : Int32} {q : (Int64 × Mem)} (t_a0 : K a0 = some (.inl 7)) {m : Mem} (hf : f_X8_value_100 K a0 x1 x2 x3 x4 m = some q) : VV w RX8 cX8_value 5 (some .long) rm_X8_value false (QM w K (some (.long q.1)) q.2 0 0) K 100 [some (.ref a0), none, none, none, none] [] 0 0 m := by
  unfold f_X8_value_100 at hf
  refine vv_aload_n 101 dX8_value_100 rfl rfl ?_
  obtain ⟨b1, g_b1, hf⟩ := bind_s hf
  have t_b1 := (ldO_spec g_b1).2
  refine gf_RX8_25 104 dX8_value_101 rfl t_a0 (ldO_spec g_b1).1 ?_
  obtain ⟨b2, g_b2, hf⟩ := bind_s hf
  have t_b2 := (ldA_spec g_b2).2
  refine gf_RX8_232 107 dX8_value_104 rfl t_b1 (ldA_spec g_b2).1 ?_
  refine vv_iconst 108 (v := 0) dX8_value_107 rfl (by decide) ?_
  obtain ⟨r3, g_r3, hf⟩ := bind_s hf
  refine vv_lald 109 dX8_value_108 rfl t_b2 g_r3 ?_
  obtain rfl := Option.some.inj hf
  exact vv_lret dX8_value_109 rfl

set_option maxHeartbeats 4000000 in
theorem v_X8_value_110 {w : Wo} {K : Kn} {a0 : Nat} {x1 : Int32} {x2 : Int32} {x3 : Int32} {x4 : Int32} {q : (Int64 × Mem)} (t_a0 : K a0 = some (.inl 7)) {m : Mem} (hf : f_X8_value_110 K a0 x1 x2 x3 x4 m = some q) : VV w RX8 cX8_value 5 (some .long) rm_X8_value false (QM w K (some (.long q.1)) q.2 0 0) K 110 [some (.ref a0), none, none, none, none] [] 0 0 m := by
  unfold f_X8_value_110 at hf
  refine vv_aload_n 111 dX8_value_110 rfl rfl ?_
  obtain ⟨b1, g_b1, hf⟩ := bind_s hf
  have t_b1 := (ldO_spec g_b1).2
  refine gf_RX8_25 114 dX8_value_111 rfl t_a0 (ldO_spec g_b1).1 ?_
  obtain ⟨b2, g_b2, hf⟩ := bind_s hf
  have t_b2 := (ldA_spec g_b2).2
  refine gf_RX8_232 117 dX8_value_114 rfl t_b1 (ldA_spec g_b2).1 ?_
  refine vv_aload_n 118 dX8_value_117 rfl rfl ?_
  obtain ⟨b3, g_b3, hf⟩ := bind_s hf
  have t_b3 := (ldO_spec g_b3).2
  refine gf_RX8_25 121 dX8_value_118 rfl t_a0 (ldO_spec g_b3).1 ?_
  refine gf_RX8_102 124 dX8_value_121 rfl t_b3 ?_
  refine vv_iconst 125 (v := 1) dX8_value_124 rfl (by decide) ?_
  refine vv_isub 126 dX8_value_125 rfl ?_
  obtain ⟨r4, g_r4, hf⟩ := bind_s hf
  refine vv_lald 127 dX8_value_126 rfl t_b2 g_r4 ?_
  obtain rfl := Option.some.inj hf
  exact vv_lret dX8_value_127 rfl

set_option maxHeartbeats 4000000 in
theorem v_X8_value_128 {w : Wo} {K : Kn} {a0 : Nat} {x1 : Int32} {x2 : Int32} {x3 : Int32} {x4 : Int32} {q : (Int64 × Mem)} (t_a0 : K a0 = some (.inl 7)) {m : Mem} (hf : f_X8_value_128 K a0 x1 x2 x3 x4 m = some q) : VV w RX8 cX8_value 5 (some .long) rm_X8_value false (QM w K (some (.long q.1)) q.2 0 0) K 128 [some (.ref a0), none, none, none, none] [] 0 0 m := by
  unfold f_X8_value_128 at hf
  refine vv_aload_n 129 dX8_value_128 rfl rfl ?_
  obtain ⟨b1, g_b1, hf⟩ := bind_s hf
  have t_b1 := (ldO_spec g_b1).2
  refine gf_RX8_25 132 dX8_value_129 rfl t_a0 (ldO_spec g_b1).1 ?_
  obtain ⟨q2, g_q2, hf⟩ := bind_s hf
  refine vv_callV 135 (st := []) (As := []) (stk2 := [.long q2]) (cl2 := 0) (sl2 := 0) dX8_value_132 rfl lk_RX8_285 w_880 w_881 rfl t_b1 ⟨(Nat.le_of_ble_eq_true rfl), (Nat.le_of_ble_eq_true rfl)⟩ rfl rfl ⟨(Nat.le_of_ble_eq_true rfl), (Nat.le_of_ble_eq_true rfl)⟩ rfl (Nat.le_of_ble_eq_true rfl) rfl rfl rfl rfl (c_X5_leastOf t_b1 g_q2) ?_
  obtain rfl := Option.some.inj hf
  exact vv_lret dX8_value_135 rfl

set_option maxHeartbeats 4000000 in
theorem v_X8_value_136 {w : Wo} {K : Kn} {a0 : Nat} {x1 : Int32} {x2 : Int32} {x3 : Int32} {x4 : Int32} {q : (Int64 × Mem)} (t_a0 : K a0 = some (.inl 7)) {m : Mem} (hf : f_X8_value_136 K a0 x1 x2 x3 x4 m = some q) : VV w RX8 cX8_value 5 (some .long) rm_X8_value false (QM w K (some (.long q.1)) q.2 0 0) K 136 [some (.ref a0), none, none, none, none] [] 0 0 m := by
  unfold f_X8_value_136 at hf
  refine vv_aload_n 137 dX8_value_136 rfl rfl ?_
  obtain ⟨b1, g_b1, hf⟩ := bind_s hf
  have t_b1 := (ldO_spec g_b1).2
  refine gf_RX8_25 140 dX8_value_137 rfl t_a0 (ldO_spec g_b1).1 ?_
  obtain ⟨q2, g_q2, hf⟩ := bind_s hf
  refine vv_callV 143 (st := []) (As := []) (stk2 := [.long q2]) (cl2 := 0) (sl2 := 0) dX8_value_140 rfl lk_RX8_289 w_884 w_885 rfl t_b1 ⟨(Nat.le_of_ble_eq_true rfl), (Nat.le_of_ble_eq_true rfl)⟩ rfl rfl ⟨(Nat.le_of_ble_eq_true rfl), (Nat.le_of_ble_eq_true rfl)⟩ rfl (Nat.le_of_ble_eq_true rfl) rfl rfl rfl rfl (c_X5_greatestOf t_b1 g_q2) ?_
  obtain rfl := Option.some.inj hf
  exact vv_lret dX8_value_143 rfl

set_option maxHeartbeats 4000000 in
theorem v_X8_value_0 {w : Wo} {K : Kn} {a0 : Nat} {x1 : Int32} {x2 : Int32} {x3 : Int32} {x4 : Int32} {q : (Int64 × Mem)} (t_a0 : K a0 = some (.inl 7)) {m : Mem} (hf : f_X8_value K a0 x1 x2 x3 x4 m = some q) : VV w RX8 cX8_value 5 (some .long) rm_X8_value false (QM w K (some (.long q.1)) q.2 0 0) K 0 [some (.ref a0), some (.int x1), some (.int x2), some (.int x3), some (.int x4)] [] 0 0 m := by
  unfold f_X8_value at hf
  refine vv_aload_n 1 dX8_value_0 rfl rfl ?_
  refine vv_iload_n 2 dX8_value_1 rfl rfl ?_
  obtain ⟨q1, g_q1, hf⟩ := bind_s hf
  refine vv_callV 5 (st := []) (As := [.int x1]) (stk2 := [.int q1]) (cl2 := 0) (sl2 := 0) dX8_value_2 rfl lk_RX8_81 w_469 w_0 rfl t_a0 ⟨(Nat.le_of_ble_eq_true rfl), (Nat.le_of_ble_eq_true rfl)⟩ rfl rfl ⟨(Nat.le_of_ble_eq_true rfl), (Nat.le_of_ble_eq_true rfl)⟩ rfl (Nat.le_of_ble_eq_true rfl) rfl rfl rfl rfl (c_X8_isNone t_a0 g_q1) ?_
  refine vv_if_ne 24 8 dX8_value_5 rfl (by decide) (fun c2 => ?_) (fun c2 => ?_)
  · rw [if_pos c2] at hf
    refine vv_iload_n 9 dX8_value_8 rfl rfl ?_
    refine vv_iload_n 10 dX8_value_9 rfl rfl ?_
    refine vv_icmp_gt 24 13 dX8_value_10 rfl (by decide) (fun c3 => ?_) (fun c3 => ?_)
    · rw [if_pos c3] at hf
      refine vv_ldc2 27 (v := 9221120237041090560) dX8_value_24 rfl w_870 ?_
      obtain rfl := Option.some.inj hf
      exact vv_lret dX8_value_27 rfl
    · rw [if_neg c3] at hf
      refine vv_iload 15 dX8_value_13 rfl rfl ?_
      refine vv_if_lt 24 18 dX8_value_15 rfl (by decide) (fun c4 => ?_) (fun c4 => ?_)
      · rw [if_pos c4] at hf
        refine vv_ldc2 27 (v := 9221120237041090560) dX8_value_24 rfl w_870 ?_
        obtain rfl := Option.some.inj hf
        exact vv_lret dX8_value_27 rfl
      · rw [if_neg c4] at hf
        refine vv_iload 20 dX8_value_18 rfl rfl ?_
        refine vv_iconst 21 (v := 4) dX8_value_20 rfl (by decide) ?_
        refine vv_icmp_le 28 24 dX8_value_21 rfl (by decide) (fun c5 => ?_) (fun c5 => ?_)
        · rw [if_pos c5] at hf
          refine vv_aload_n 29 dX8_value_28 rfl rfl ?_
          obtain ⟨b6, g_b6, hf⟩ := bind_s hf
          have t_b6 := (ldA_spec g_b6).2
          refine gf_RX8_11 32 dX8_value_29 rfl t_a0 (ldA_spec g_b6).1 ?_
          refine vv_iload_n 33 dX8_value_32 rfl rfl ?_
          obtain ⟨b7, g_b7, hf⟩ := bind_s hf
          have t_b7 := (alO_spec g_b7).2
          refine vv_aald3 34 dX8_value_33 rfl t_b6 g_b7 ?_
          refine vv_iload_n 35 dX8_value_34 rfl rfl ?_
          refine vv_iload_n 36 dX8_value_35 rfl rfl ?_
          refine vv_aload_n 37 dX8_value_36 rfl rfl ?_
          obtain ⟨b8, g_b8, hf⟩ := bind_s hf
          have t_b8 := (ldO_spec g_b8).2
          refine gf_RX8_44 40 dX8_value_37 rfl t_a0 (ldO_spec g_b8).1 ?_
          refine vv_aload_n 41 dX8_value_40 rfl rfl ?_
          obtain ⟨b9, g_b9, hf⟩ := bind_s hf
          have t_b9 := (ldO_spec g_b9).2
          refine gf_RX8_25 44 dX8_value_41 rfl t_a0 (ldO_spec g_b9).1 ?_
          obtain ⟨q10, g_q10, hf⟩ := bind_s hf
          refine vv_callV 47 (st := []) (As := [.int x2, .int x3, .ref b8, .ref b9]) (stk2 := []) (cl2 := 0) (sl2 := 0) dX8_value_44 rfl lk_RX8_228 w_697 w_698 rfl t_b7 ⟨(Nat.le_of_ble_eq_true rfl), (Nat.le_of_ble_eq_true rfl)⟩ rfl rfl ⟨(Nat.le_of_ble_eq_true rfl), (Nat.le_of_ble_eq_true rfl)⟩ rfl (Nat.le_of_ble_eq_true rfl) rfl rfl rfl rfl (c_X7_gather t_b7 t_b8 t_b9 g_q10) ?_
          refine vv_aload_n 48 dX8_value_47 rfl rfl ?_
          obtain ⟨b11, g_b11, hf⟩ := bind_s hf
          have t_b11 := (ldO_spec g_b11).2
          refine gf_RX8_25 51 dX8_value_48 rfl t_a0 (ldO_spec g_b11).1 ?_
          obtain ⟨q12, g_q12, hf⟩ := bind_s hf
          refine vv_callV 54 (st := []) (As := []) (stk2 := []) (cl2 := 0) (sl2 := 0) dX8_value_51 rfl lk_RX8_282 w_872 w_873 rfl t_b11 ⟨(Nat.le_of_ble_eq_true rfl), (Nat.le_of_ble_eq_true rfl)⟩ rfl rfl ⟨(Nat.le_of_ble_eq_true rfl), (Nat.le_of_ble_eq_true rfl)⟩ rfl (Nat.le_of_ble_eq_true rfl) rfl rfl rfl rfl (c_X5_keepNumbers t_b11 g_q12) ?_
          refine vv_aload_n 55 dX8_value_54 rfl rfl ?_
          obtain ⟨b13, g_b13, hf⟩ := bind_s hf
          have t_b13 := (ldO_spec g_b13).2
          refine gf_RX8_25 58 dX8_value_55 rfl t_a0 (ldO_spec g_b13).1 ?_
          refine gf_RX8_102 61 dX8_value_58 rfl t_b13 ?_
          refine vv_if_ne 68 64 dX8_value_61 rfl (by decide) (fun c14 => ?_) (fun c14 => ?_)
          · rw [if_pos c14] at hf
            refine vv_ldc2 67 (v := 9221120237041090560) dX8_value_64 rfl w_870 ?_
            obtain rfl := Option.some.inj hf
            exact vv_lret dX8_value_67 rfl
          · rw [if_neg c14] at hf
            refine vv_iload 70 dX8_value_68 rfl rfl ?_
            by_cases c15 : x4 = 0
            · rw [if_pos c15] at hf
              refine vv_tabK 100 (k := 0) c15 dX8_value_70 (by decide) (by decide) (off := 30) rfl (by decide) ?_
              exact VV.lle (v_X8_value_100 t_a0 hf) (lle_s (lle_n (lle_n (lle_n (lle_n lle_nil)))))
            rw [if_neg c15] at hf
            by_cases c16 : x4 = 1
            · rw [if_pos c16] at hf
              refine vv_tabK 110 (k := 1) c16 dX8_value_70 (by decide) (by decide) (off := 40) rfl (by decide) ?_
              exact VV.lle (v_X8_value_110 t_a0 hf) (lle_s (lle_n (lle_n (lle_n (lle_n lle_nil)))))
            rw [if_neg c16] at hf
            by_cases c17 : x4 = 2
            · rw [if_pos c17] at hf
              refine vv_tabK 128 (k := 2) c17 dX8_value_70 (by decide) (by decide) (off := 58) rfl (by decide) ?_
              exact VV.lle (v_X8_value_128 t_a0 hf) (lle_s (lle_n (lle_n (lle_n (lle_n lle_nil)))))
            rw [if_neg c17] at hf
            by_cases c18 : x4 = 3
            · rw [if_pos c18] at hf
              refine vv_tabK 136 (k := 3) c18 dX8_value_70 (by decide) (by decide) (off := 66) rfl (by decide) ?_
              exact VV.lle (v_X8_value_136 t_a0 hf) (lle_s (lle_n (lle_n (lle_n (lle_n lle_nil)))))
            rw [if_neg c18] at hf
            refine vv_tabOut 144 dX8_value_70 (tab_out (n := 3) (by decide) (fun k hk => ?_)) (by decide) ?_
            · match k, hk with
              | 0, _ => exact c15
              | 1, _ => exact c16
              | 2, _ => exact c17
              | 3, _ => exact c18
              | k + 4, hk => exact absurd hk (by omega)
            exact VV.lle (v_X8_value_144 t_a0 hf) (lle_s (lle_n (lle_n (lle_n (lle_n lle_nil)))))
        · rw [if_neg c5] at hf
          refine vv_ldc2 27 (v := 9221120237041090560) dX8_value_24 rfl w_870 ?_
          obtain rfl := Option.some.inj hf
          exact vv_lret dX8_value_27 rfl
  · rw [if_neg c2] at hf
    refine vv_ldc2 27 (v := 9221120237041090560) dX8_value_24 rfl w_870 ?_
    obtain rfl := Option.some.inj hf
    exact vv_lret dX8_value_27 rfl

theorem c_X8_value {w : Wo} {K : Kn} {a0 : Nat} {x1 : Int32} {x2 : Int32} {x3 : Int32} {x4 : Int32} {q : (Int64 × Mem)} {m : Mem} (t_a0 : K a0 = some (.inl 7)) (hf : F_X8_value K m a0 x1 x2 x3 x4 = some q) : MM w K K yX8_value cX8_value 5 (some .long) rm_X8_value [.ref a0, .int x1, .int x2, .int x3, .int x4] m (some (.long q.1)) q.2 0 0 :=
  mm_of (ini := false) (n := 0) (plainFor_of_name (by decide)) rfl (fun h => by first | rfl | cases h) (Nat.le_of_ble_eq_true rfl) rfl (v_X8_value_0 t_a0 hf)

set_option maxHeartbeats 4000000 in
theorem v_Jxe99ae_isNaN_b9ae7_0 {w : Wo} {K : Kn} {x0 : UInt64} {y0 : UInt64} {q : Int32} {m : Mem} (al_x0 : alike64 y0 x0 = true) (hf : f_Jxe99ae_isNaN_b9ae7 x0 = some q) : VV w RJxe99ae cJxe99ae_isNaN_b9ae7 2 (some .boolean) rm_Jxe99ae_isNaN_b9ae7 false (QM w K (some (.int q)) m 0 0) K 0 [some (.double y0), none] [] 0 0 m := by
  unfold f_Jxe99ae_isNaN_b9ae7 at hf
  refine vv_dload_n 1 dJxe99ae_isNaN_b9ae7_0 rfl rfl ?_
  refine vv_dload_n 2 dJxe99ae_isNaN_b9ae7_1 rfl rfl ?_
  refine vv_dcmp 3 dJxe99ae_isNaN_b9ae7_2 rfl ?_
  rw [dcmp_alike al_x0 al_x0]
  refine vv_if_eq 10 6 dJxe99ae_isNaN_b9ae7_3 rfl (by decide) (fun c1 => ?_) (fun c1 => ?_)
  · rw [if_pos c1] at hf
    refine vv_iconst 11 (v := 0) dJxe99ae_isNaN_b9ae7_10 rfl (by decide) ?_
    obtain rfl := Option.some.inj hf
    exact vv_zret dJxe99ae_isNaN_b9ae7_11 rfl (Or.inl rfl)
  · rw [if_neg c1] at hf
    refine vv_iconst 7 (v := 1) dJxe99ae_isNaN_b9ae7_6 rfl (by decide) ?_
    refine vv_goto 11 dJxe99ae_isNaN_b9ae7_7 (by decide) ?_
    obtain rfl := Option.some.inj hf
    exact vv_zret dJxe99ae_isNaN_b9ae7_11 rfl (Or.inr rfl)

theorem c_Jxe99ae_isNaN_b9ae7 {w : Wo} {K : Kn} {x0 : UInt64} {y0 : UInt64} {q : Int32} {m : Mem} (al_x0 : alike64 y0 x0 = true) (hf : F_Jxe99ae_isNaN_b9ae7 x0 = some q) : MM w K K yJxe99ae_isNaN_b9ae7 cJxe99ae_isNaN_b9ae7 2 (some .boolean) rm_Jxe99ae_isNaN_b9ae7 [.double y0] m (some (.int q)) m 0 0 :=
  mm_of (ini := false) (n := 0) (by decide +kernel) rfl (fun h => by first | rfl | cases h) (Nat.le_of_ble_eq_true rfl) rfl (v_Jxe99ae_isNaN_b9ae7_0 al_x0 hf)

set_option maxHeartbeats 4000000 in
theorem v_Jxe99ae_doubleToLongBits_ccdee_0 {w : Wo} {K : Kn} {x0 : UInt64} {y0 : UInt64} {q : Int64} {m : Mem} (al_x0 : alike64 y0 x0 = true) (hf : f_Jxe99ae_doubleToLongBits_ccdee x0 = some q) : VV w RJxe99ae cJxe99ae_doubleToLongBits_ccdee 2 (some .long) rm_Jxe99ae_doubleToLongBits_ccdee false (QM w K (some (.long q)) m 0 0) K 0 [some (.double y0), none] [] 0 0 m := by
  unfold f_Jxe99ae_doubleToLongBits_ccdee at hf
  refine vv_dload_n 1 dJxe99ae_doubleToLongBits_ccdee_0 rfl rfl ?_
  obtain ⟨q1, g_q1, hf⟩ := bind_s hf
  refine vv_callS 4 (st := []) (As := [.double y0]) (stk2 := [.int q1]) (cl2 := 0) (sl2 := 0) dJxe99ae_doubleToLongBits_ccdee_1 rfl lk_RJxe99ae_122 w_1531 ⟨(Nat.le_of_ble_eq_true rfl), (Nat.le_of_ble_eq_true rfl)⟩ rfl rfl ⟨(Nat.le_of_ble_eq_true rfl), (Nat.le_of_ble_eq_true rfl)⟩ rfl (Nat.le_of_ble_eq_true rfl) rfl rfl rfl rfl (c_Jxe99ae_isNaN_b9ae7 al_x0 g_q1) ?_
  refine vv_if_ne 12 7 dJxe99ae_doubleToLongBits_ccdee_4 rfl (by decide) (fun c2 => ?_) (fun c2 => ?_)
  · rw [if_pos c2] at hf
    refine vv_dload_n 8 dJxe99ae_doubleToLongBits_ccdee_7 rfl rfl ?_
    obtain ⟨h3, hf⟩ := gd_s hf
    obtain rfl := alike_num al_x0 h3
    refine vv_d2l 11 dJxe99ae_doubleToLongBits_ccdee_8 rfl w_1533 w_1535 w_1534 w_76 (Nat.le_of_ble_eq_true rfl) (Nat.le_of_ble_eq_true rfl) ?_
    obtain rfl := Option.some.inj hf
    exact vv_lret dJxe99ae_doubleToLongBits_ccdee_11 rfl
  · rw [if_neg c2] at hf
    refine vv_ldc2 15 (v := 9221120237041090560) dJxe99ae_doubleToLongBits_ccdee_12 rfl w_1536 ?_
    obtain rfl := Option.some.inj hf
    exact vv_lret dJxe99ae_doubleToLongBits_ccdee_15 rfl

theorem c_Jxe99ae_doubleToLongBits_ccdee {w : Wo} {K : Kn} {x0 : UInt64} {y0 : UInt64} {q : Int64} {m : Mem} (al_x0 : alike64 y0 x0 = true) (hf : F_Jxe99ae_doubleToLongBits_ccdee x0 = some q) : MM w K K yJxe99ae_doubleToLongBits_ccdee cJxe99ae_doubleToLongBits_ccdee 2 (some .long) rm_Jxe99ae_doubleToLongBits_ccdee [.double y0] m (some (.long q)) m 0 0 :=
  mm_of (ini := false) (n := 0) (by decide +kernel) rfl (fun h => by first | rfl | cases h) (Nat.le_of_ble_eq_true rfl) rfl (v_Jxe99ae_doubleToLongBits_ccdee_0 al_x0 hf)

set_option maxHeartbeats 4000000 in
theorem v_X5_countAbove_35 {w : Wo} {K : Kn} {a0 : Nat} {x1 : Int64} {q : Int32} {m : Mem} (t_a0 : K a0 = some (.inl 4)) (k5 : Int32 → Int32 → Option Int32) (hk5 : ∀ (x3 : Int32) (x4 : Int32), k5 x3 x4 = some q → VV w RX5 cX5_countAbove 5 (some .int) rm_X5_countAbove false (QM w K (some (.int q)) m 0 0) K 5 [some (.ref a0), some (.long x1), none, some (.int x3), some (.int x4)] [] 0 0 m) {x3 : Int32} {x4 : Int32} (hf : f_X5_countAbove_35 K m a0 x1 k5 x3 x4 = some q) : VV w RX5 cX5_countAbove 5 (some .int) rm_X5_countAbove false (QM w K (some (.int q)) m 0 0) K 35 [some (.ref a0), some (.long x1), none, some (.int x3), some (.int x4)] [] 0 0 m := by
  unfold f_X5_countAbove_35 at hf
  obtain ⟨z1, e_z1, hf⟩ := bd_s hf
  refine vv_iincE (q := 38) (v := z1) (c := 1) (L' := [some (.ref a0), some (.long x1), none, some (.int x3), some (.int z1)]) e_z1 dX5_countAbove_35 rfl rfl (by decide) (Nat.le_of_ble_eq_true rfl) rfl ?_
  refine vv_goto 5 dX5_countAbove_38 (by decide) ?_
  exact hk5 _ _ hf

set_option maxHeartbeats 4000000 in
theorem v_X5_countAbove_5B {w : Wo} {K : Kn} {a0 : Nat} {x1 : Int64} {q : Int32} {m : Mem} (t_a0 : K a0 = some (.inl 4)) (k5 : Int32 → Int32 → Option Int32) (hk5 : ∀ (x3 : Int32) (x4 : Int32), k5 x3 x4 = some q → VV w RX5 cX5_countAbove 5 (some .int) rm_X5_countAbove false (QM w K (some (.int q)) m 0 0) K 5 [some (.ref a0), some (.long x1), none, some (.int x3), some (.int x4)] [] 0 0 m) {x3 : Int32} {x4 : Int32} (hf : f_X5_countAbove_5B K m a0 x1 k5 x3 x4 = some q) : VV w RX5 cX5_countAbove 5 (some .int) rm_X5_countAbove false (QM w K (some (.int q)) m 0 0) K 5 [some (.ref a0), some (.long x1), none, some (.int x3), some (.int x4)] [] 0 0 m := by
  unfold f_X5_countAbove_5B at hf
  refine vv_iload 7 dX5_countAbove_5 rfl rfl ?_
  refine vv_aload_n 8 dX5_countAbove_7 rfl rfl ?_
  refine gf_RX5_19 11 dX5_countAbove_8 rfl t_a0 ?_
  refine vv_icmp_ge 41 14 dX5_countAbove_11 rfl (by decide) (fun c1 => ?_) (fun c1 => ?_)
  · rw [if_pos c1] at hf
    refine vv_iload_n 42 dX5_countAbove_41 rfl rfl ?_
    obtain rfl := Option.some.inj hf
    exact vv_iret dX5_countAbove_42 rfl
  · rw [if_neg c1] at hf
    refine vv_aload_n 15 dX5_countAbove_14 rfl rfl ?_
    obtain ⟨b2, g_b2, hf⟩ := bind_s hf
    have t_b2 := (ldA_spec g_b2).2
    refine gf_RX5_15 18 dX5_countAbove_15 rfl t_a0 (ldA_spec g_b2).1 ?_
    refine vv_iload 20 dX5_countAbove_18 rfl rfl ?_
    obtain ⟨r3, g_r3, hf⟩ := bind_s hf
    refine vv_lald 21 dX5_countAbove_20 rfl t_b2 g_r3 ?_
    obtain ⟨q4, g_q4, hf⟩ := bind_s hf
    refine vv_callS 24 (st := []) (As := [.long r3]) (stk2 := [.long q4]) (cl2 := 0) (sl2 := 0) dX5_countAbove_21 rfl lk_RX5_43 w_839 ⟨(Nat.le_of_ble_eq_true rfl), (Nat.le_of_ble_eq_true rfl)⟩ rfl rfl ⟨(Nat.le_of_ble_eq_true rfl), (Nat.le_of_ble_eq_true rfl)⟩ rfl (Nat.le_of_ble_eq_true rfl) rfl rfl rfl rfl (c_X3_order g_q4) ?_
    refine vv_lload_n 25 dX5_countAbove_24 rfl rfl ?_
    obtain ⟨q5, g_q5, hf⟩ := bind_s hf
    refine vv_callS 28 (st := [.long q4]) (As := [.long x1]) (stk2 := [.long q5, .long q4]) (cl2 := 0) (sl2 := 0) dX5_countAbove_25 rfl lk_RX5_43 w_839 ⟨(Nat.le_of_ble_eq_true rfl), (Nat.le_of_ble_eq_true rfl)⟩ rfl rfl ⟨(Nat.le_of_ble_eq_true rfl), (Nat.le_of_ble_eq_true rfl)⟩ rfl (Nat.le_of_ble_eq_true rfl) rfl rfl rfl rfl (c_X3_order g_q5) ?_
    refine vv_lcmp 29 dX5_countAbove_28 rfl ?_
    refine vv_if_le 35 32 dX5_countAbove_29 rfl (by decide) (fun c6 => ?_) (fun c6 => ?_)
    · rw [if_pos c6] at hf
      exact v_X5_countAbove_35 t_a0 k5 hk5 hf
    · rw [if_neg c6] at hf
      obtain ⟨z7, e_z7, hf⟩ := bd_s hf
      refine vv_iincE (q := 35) (v := z7) (c := 1) (L' := [some (.ref a0), some (.long x1), none, some (.int z7), some (.int x4)]) e_z7 dX5_countAbove_32 rfl rfl (by decide) (Nat.le_of_ble_eq_true rfl) rfl ?_
      exact v_X5_countAbove_35 t_a0 k5 hk5 hf

theorem v_X5_countAbove_5 {w : Wo} {K : Kn} {a0 : Nat} {x1 : Int64} {q : Int32} {m : Mem} (t_a0 : K a0 = some (.inl 4)) : ∀ (n : Nat) (x3 : Int32) (x4 : Int32), f_X5_countAbove_5 K m a0 x1 n x3 x4 = some q → VV w RX5 cX5_countAbove 5 (some .int) rm_X5_countAbove false (QM w K (some (.int q)) m 0 0) K 5 [some (.ref a0), some (.long x1), none, some (.int x3), some (.int x4)] [] 0 0 m := by
  intro n
  induction n with
  | zero => intro x3 x4 hf; cases hf
  | succ n ih => intro x3 x4 hf; exact v_X5_countAbove_5B (a0 := a0) (x1 := x1) t_a0 (f_X5_countAbove_5 K m a0 x1 n) ih hf

set_option maxHeartbeats 4000000 in
theorem v_X5_countAbove_0 {w : Wo} {K : Kn} {a0 : Nat} {x1 : Int64} {q : Int32} {m : Mem} (t_a0 : K a0 = some (.inl 4)) (hf : f_X5_countAbove K m a0 x1 = some q) : VV w RX5 cX5_countAbove 5 (some .int) rm_X5_countAbove false (QM w K (some (.int q)) m 0 0) K 0 [some (.ref a0), some (.long x1), none, none, none] [] 0 0 m := by
  unfold f_X5_countAbove at hf
  refine vv_iconst 1 (v := 0) dX5_countAbove_0 rfl (by decide) ?_
  refine vv_istore_n 2 (L' := [some (.ref a0), some (.long x1), none, some (.int (0 : Int32)), none]) dX5_countAbove_1 rfl (Nat.le_of_ble_eq_true rfl) rfl ?_
  refine vv_iconst 3 (v := 0) dX5_countAbove_2 rfl (by decide) ?_
  refine vv_istore 5 (L' := [some (.ref a0), some (.long x1), none, some (.int (0 : Int32)), some (.int (0 : Int32))]) dX5_countAbove_3 rfl (Nat.le_of_ble_eq_true rfl) rfl ?_
  exact v_X5_countAbove_5 t_a0 FU _ _ hf

theorem c_X5_countAbove {w : Wo} {K : Kn} {a0 : Nat} {x1 : Int64} {q : Int32} {m : Mem} (t_a0 : K a0 = some (.inl 4)) (hf : F_X5_countAbove K m a0 x1 = some q) : MM w K K yX5_countAbove cX5_countAbove 5 (some .int) rm_X5_countAbove [.ref a0, .long x1] m (some (.int q)) m 0 0 :=
  mm_of (ini := false) (n := 2) (plainFor_of_name (by decide)) rfl (fun h => by first | rfl | cases h) (Nat.le_of_ble_eq_true rfl) rfl (v_X5_countAbove_0 t_a0 hf)

set_option maxHeartbeats 4000000 in
theorem v_X8_above_0 {w : Wo} {K : Kn} {a0 : Nat} {x1 : Int32} {x2 : Int32} {x3 : Int32} {x4 : Int64} {q : (Int32 × Mem)} (t_a0 : K a0 = some (.inl 7)) {m : Mem} (hf : f_X8_above K a0 x1 x2 x3 x4 m = some q) : VV w RX8 cX8_above 6 (some .int) rm_X8_above false (QM w K (some (.int q.1)) q.2 0 0) K 0 [some (.ref a0), some (.int x1), some (.int x2), some (.int x3), some (.long x4), none] [] 0 0 m := by
  unfold f_X8_above at hf
  refine vv_aload_n 1 dX8_above_0 rfl rfl ?_
  refine vv_iload_n 2 dX8_above_1 rfl rfl ?_
  obtain ⟨q1, g_q1, hf⟩ := bind_s hf
  refine vv_callV 5 (st := []) (As := [.int x1]) (stk2 := [.int q1]) (cl2 := 0) (sl2 := 0) dX8_above_2 rfl lk_RX8_81 w_469 w_0 rfl t_a0 ⟨(Nat.le_of_ble_eq_true rfl), (Nat.le_of_ble_eq_true rfl)⟩ rfl rfl ⟨(Nat.le_of_ble_eq_true rfl), (Nat.le_of_ble_eq_true rfl)⟩ rfl (Nat.le_of_ble_eq_true rfl) rfl rfl rfl rfl (c_X8_isNone t_a0 g_q1) ?_
  refine vv_if_ne 13 8 dX8_above_5 rfl (by decide) (fun c2 => ?_) (fun c2 => ?_)
  · rw [if_pos c2] at hf
    refine vv_iload_n 9 dX8_above_8 rfl rfl ?_
    refine vv_iload_n 10 dX8_above_9 rfl rfl ?_
    refine vv_icmp_le 16 13 dX8_above_10 rfl (by decide) (fun c3 => ?_) (fun c3 => ?_)
    · rw [if_pos c3] at hf
      refine vv_lload 18 dX8_above_16 rfl rfl ?_
      obtain ⟨q4, g_q4, hf⟩ := bind_s hf
      refine vv_callS 21 (st := []) (As := [.long x4]) (stk2 := [.int q4]) (cl2 := 0) (sl2 := 0) dX8_above_18 rfl lk_RX8_263 w_834 ⟨(Nat.le_of_ble_eq_true rfl), (Nat.le_of_ble_eq_true rfl)⟩ rfl rfl ⟨(Nat.le_of_ble_eq_true rfl), (Nat.le_of_ble_eq_true rfl)⟩ rfl (Nat.le_of_ble_eq_true rfl) rfl rfl rfl rfl (c_X3_isNumber g_q4) ?_
      refine vv_if_ne 26 24 dX8_above_21 rfl (by decide) (fun c5 => ?_) (fun c5 => ?_)
      · rw [if_pos c5] at hf
        refine vv_iconst 25 (v := (-1)) dX8_above_24 rfl (by decide) ?_
        obtain rfl := Option.some.inj hf
        exact vv_iret dX8_above_25 rfl
      · rw [if_neg c5] at hf
        refine vv_aload_n 27 dX8_above_26 rfl rfl ?_
        obtain ⟨b6, g_b6, hf⟩ := bind_s hf
        have t_b6 := (ldA_spec g_b6).2
        refine gf_RX8_11 30 dX8_above_27 rfl t_a0 (ldA_spec g_b6).1 ?_
        refine vv_iload_n 31 dX8_above_30 rfl rfl ?_
        obtain ⟨b7, g_b7, hf⟩ := bind_s hf
        have t_b7 := (alO_spec g_b7).2
        refine vv_aald3 32 dX8_above_31 rfl t_b6 g_b7 ?_
        refine vv_iload_n 33 dX8_above_32 rfl rfl ?_
        refine vv_iload_n 34 dX8_above_33 rfl rfl ?_
        refine vv_aload_n 35 dX8_above_34 rfl rfl ?_
        obtain ⟨b8, g_b8, hf⟩ := bind_s hf
        have t_b8 := (ldO_spec g_b8).2
        refine gf_RX8_44 38 dX8_above_35 rfl t_a0 (ldO_spec g_b8).1 ?_
        refine vv_aload_n 39 dX8_above_38 rfl rfl ?_
        obtain ⟨b9, g_b9, hf⟩ := bind_s hf
        have t_b9 := (ldO_spec g_b9).2
        refine gf_RX8_25 42 dX8_above_39 rfl t_a0 (ldO_spec g_b9).1 ?_
        obtain ⟨q10, g_q10, hf⟩ := bind_s hf
        refine vv_callV 45 (st := []) (As := [.int x2, .int x3, .ref b8, .ref b9]) (stk2 := []) (cl2 := 0) (sl2 := 0) dX8_above_42 rfl lk_RX8_228 w_697 w_698 rfl t_b7 ⟨(Nat.le_of_ble_eq_true rfl), (Nat.le_of_ble_eq_true rfl)⟩ rfl rfl ⟨(Nat.le_of_ble_eq_true rfl), (Nat.le_of_ble_eq_true rfl)⟩ rfl (Nat.le_of_ble_eq_true rfl) rfl rfl rfl rfl (c_X7_gather t_b7 t_b8 t_b9 g_q10) ?_
        refine vv_aload_n 46 dX8_above_45 rfl rfl ?_
        obtain ⟨b11, g_b11, hf⟩ := bind_s hf
        have t_b11 := (ldO_spec g_b11).2
        refine gf_RX8_25 49 dX8_above_46 rfl t_a0 (ldO_spec g_b11).1 ?_
        obtain ⟨q12, g_q12, hf⟩ := bind_s hf
        refine vv_callV 52 (st := []) (As := []) (stk2 := []) (cl2 := 0) (sl2 := 0) dX8_above_49 rfl lk_RX8_282 w_872 w_873 rfl t_b11 ⟨(Nat.le_of_ble_eq_true rfl), (Nat.le_of_ble_eq_true rfl)⟩ rfl rfl ⟨(Nat.le_of_ble_eq_true rfl), (Nat.le_of_ble_eq_true rfl)⟩ rfl (Nat.le_of_ble_eq_true rfl) rfl rfl rfl rfl (c_X5_keepNumbers t_b11 g_q12) ?_
        refine vv_aload_n 53 dX8_above_52 rfl rfl ?_
        obtain ⟨b13, g_b13, hf⟩ := bind_s hf
        have t_b13 := (ldO_spec g_b13).2
        refine gf_RX8_25 56 dX8_above_53 rfl t_a0 (ldO_spec g_b13).1 ?_
        refine vv_lload 58 dX8_above_56 rfl rfl ?_
        obtain ⟨q14, g_q14, hf⟩ := bind_s hf
        refine vv_callV 61 (st := []) (As := [.long x4]) (stk2 := [.int q14]) (cl2 := 0) (sl2 := 0) dX8_above_58 rfl lk_RX8_295 w_925 w_926 rfl t_b13 ⟨(Nat.le_of_ble_eq_true rfl), (Nat.le_of_ble_eq_true rfl)⟩ rfl rfl ⟨(Nat.le_of_ble_eq_true rfl), (Nat.le_of_ble_eq_true rfl)⟩ rfl (Nat.le_of_ble_eq_true rfl) rfl rfl rfl rfl (c_X5_countAbove t_b13 g_q14) ?_
        obtain rfl := Option.some.inj hf
        exact vv_iret dX8_above_61 rfl
    · rw [if_neg c3] at hf
      refine vv_bipush 15 (v := (-2)) dX8_above_13 rfl (by decide) ?_
      obtain rfl := Option.some.inj hf
      exact vv_iret dX8_above_15 rfl
  · rw [if_neg c2] at hf
    refine vv_bipush 15 (v := (-2)) dX8_above_13 rfl (by decide) ?_
    obtain rfl := Option.some.inj hf
    exact vv_iret dX8_above_15 rfl

theorem c_X8_above {w : Wo} {K : Kn} {a0 : Nat} {x1 : Int32} {x2 : Int32} {x3 : Int32} {x4 : Int64} {q : (Int32 × Mem)} {m : Mem} (t_a0 : K a0 = some (.inl 7)) (hf : F_X8_above K m a0 x1 x2 x3 x4 = some q) : MM w K K yX8_above cX8_above 6 (some .int) rm_X8_above [.ref a0, .int x1, .int x2, .int x3, .long x4] m (some (.int q.1)) q.2 0 0 :=
  mm_of (ini := false) (n := 0) (plainFor_of_name (by decide)) rfl (fun h => by first | rfl | cases h) (Nat.le_of_ble_eq_true rfl) rfl (v_X8_above_0 t_a0 hf)

set_option maxHeartbeats 4000000 in
theorem v_X6_countWay_45 {w : Wo} {K : Kn} {a0 : Nat} {a1 : Nat} {x2 : Int32} {q : (Int32 × Mem)} (t_a0 : K a0 = some (.inl 5)) (t_a1 : K a1 = some (.inl 0)) (k10 : Mem → Int32 → Int32 → Option (Int32 × Mem)) (hk10 : ∀ (m : Mem) (x3 : Int32) (x4 : Int32), k10 m x3 x4 = some q → VV w RX6 cX6_countWay 5 (some .int) rm_X6_countWay false (QM w K (some (.int q.1)) q.2 0 0) K 10 [some (.ref a0), some (.ref a1), some (.int x2), some (.int x3), some (.int x4)] [] 0 0 m) {m : Mem} {x3 : Int32} {x4 : Int32} (hf : f_X6_countWay_45 K a0 a1 x2 k10 m x3 x4 = some q) : VV w RX6 cX6_countWay 5 (some .int) rm_X6_countWay false (QM w K (some (.int q.1)) q.2 0 0) K 45 [some (.ref a0), some (.ref a1), some (.int x2), some (.int x3), some (.int x4)] [] 0 0 m := by
  unfold f_X6_countWay_45 at hf
  obtain ⟨z1, e_z1, hf⟩ := bd_s hf
  refine vv_iincE (q := 48) (v := z1) (c := 1) (L' := [some (.ref a0), some (.ref a1), some (.int x2), some (.int x3), some (.int z1)]) e_z1 dX6_countWay_45 rfl rfl (by decide) (Nat.le_of_ble_eq_true rfl) rfl ?_
  refine vv_goto 10 dX6_countWay_48 (by decide) ?_
  exact hk10 _ _ _ hf

set_option maxHeartbeats 4000000 in
theorem v_X6_countWay_42 {w : Wo} {K : Kn} {a0 : Nat} {a1 : Nat} {x2 : Int32} {q : (Int32 × Mem)} (t_a0 : K a0 = some (.inl 5)) (t_a1 : K a1 = some (.inl 0)) (k10 : Mem → Int32 → Int32 → Option (Int32 × Mem)) (hk10 : ∀ (m : Mem) (x3 : Int32) (x4 : Int32), k10 m x3 x4 = some q → VV w RX6 cX6_countWay 5 (some .int) rm_X6_countWay false (QM w K (some (.int q.1)) q.2 0 0) K 10 [some (.ref a0), some (.ref a1), some (.int x2), some (.int x3), some (.int x4)] [] 0 0 m) {m : Mem} {x3 : Int32} {x4 : Int32} (hf : f_X6_countWay_42 K a0 a1 x2 k10 m x3 x4 = some q) : VV w RX6 cX6_countWay 5 (some .int) rm_X6_countWay false (QM w K (some (.int q.1)) q.2 0 0) K 42 [some (.ref a0), some (.ref a1), some (.int x2), some (.int x3), some (.int x4)] [] 0 0 m := by
  unfold f_X6_countWay_42 at hf
  obtain ⟨z1, e_z1, hf⟩ := bd_s hf
  refine vv_iincE (q := 45) (v := z1) (c := 1) (L' := [some (.ref a0), some (.ref a1), some (.int x2), some (.int z1), some (.int x4)]) e_z1 dX6_countWay_42 rfl rfl (by decide) (Nat.le_of_ble_eq_true rfl) rfl ?_
  exact v_X6_countWay_45 t_a0 t_a1 k10 hk10 hf

set_option maxHeartbeats 4000000 in
theorem v_X6_countWay_51 {w : Wo} {K : Kn} {a0 : Nat} {a1 : Nat} {x2 : Int32} {q : (Int32 × Mem)} (t_a0 : K a0 = some (.inl 5)) (t_a1 : K a1 = some (.inl 0)) {m : Mem} {x3 : Int32} (hf : f_X6_countWay_51 K a0 a1 x2 m x3 = some q) : VV w RX6 cX6_countWay 5 (some .int) rm_X6_countWay false (QM w K (some (.int q.1)) q.2 0 0) K 51 [none, none, none, some (.int x3), none] [] 0 0 m := by
  unfold f_X6_countWay_51 at hf
  refine vv_iload_n 52 dX6_countWay_51 rfl rfl ?_
  obtain rfl := Option.some.inj hf
  exact vv_iret dX6_countWay_52 rfl

set_option maxHeartbeats 4000000 in
theorem v_X6_countWay_10B {w : Wo} {K : Kn} {a0 : Nat} {a1 : Nat} {x2 : Int32} {q : (Int32 × Mem)} (t_a0 : K a0 = some (.inl 5)) (t_a1 : K a1 = some (.inl 0)) (k10 : Mem → Int32 → Int32 → Option (Int32 × Mem)) (hk10 : ∀ (m : Mem) (x3 : Int32) (x4 : Int32), k10 m x3 x4 = some q → VV w RX6 cX6_countWay 5 (some .int) rm_X6_countWay false (QM w K (some (.int q.1)) q.2 0 0) K 10 [some (.ref a0), some (.ref a1), some (.int x2), some (.int x3), some (.int x4)] [] 0 0 m) {m : Mem} {x3 : Int32} {x4 : Int32} (hf : f_X6_countWay_10B K a0 a1 x2 k10 m x3 x4 = some q) : VV w RX6 cX6_countWay 5 (some .int) rm_X6_countWay false (QM w K (some (.int q.1)) q.2 0 0) K 10 [some (.ref a0), some (.ref a1), some (.int x2), some (.int x3), some (.int x4)] [] 0 0 m := by
  unfold f_X6_countWay_10B at hf
  refine vv_iload 12 dX6_countWay_10 rfl rfl ?_
  refine vv_aload_n 13 dX6_countWay_12 rfl rfl ?_
  refine gf_RX6_144 16 dX6_countWay_13 rfl t_a1 ?_
  refine vv_icmp_ge 51 19 dX6_countWay_16 rfl (by decide) (fun c1 => ?_) (fun c1 => ?_)
  · rw [if_pos c1] at hf
    exact VV.lle (v_X6_countWay_51 t_a0 t_a1 hf) (lle_n (lle_n (lle_n (lle_s (lle_n lle_nil)))))
  · rw [if_neg c1] at hf
    refine vv_aload_n 20 dX6_countWay_19 rfl rfl ?_
    obtain ⟨q2, g_q2, hf⟩ := bind_s hf
    refine vv_callV 23 (st := []) (As := []) (stk2 := [.int q2.1]) (cl2 := 0) (sl2 := 0) dX6_countWay_20 rfl lk_RX6_71 w_638 w_639 rfl t_a0 ⟨(Nat.le_of_ble_eq_true rfl), (Nat.le_of_ble_eq_true rfl)⟩ rfl rfl ⟨(Nat.le_of_ble_eq_true rfl), (Nat.le_of_ble_eq_true rfl)⟩ rfl (Nat.le_of_ble_eq_true rfl) rfl rfl rfl rfl (c_X6_read t_a0 g_q2) ?_
    refine vv_if_ne 51 26 dX6_countWay_23 rfl (by decide) (fun c3 => ?_) (fun c3 => ?_)
    · rw [if_pos c3] at hf
      refine vv_iload_n 27 dX6_countWay_26 rfl rfl ?_
      refine vv_aload_n 28 dX6_countWay_27 rfl rfl ?_
      refine gf_RX6_88 31 dX6_countWay_28 rfl t_a0 ?_
      refine vv_icmp_eq 42 34 dX6_countWay_31 rfl (by decide) (fun c4 => ?_) (fun c4 => ?_)
      · rw [if_pos c4] at hf
        exact v_X6_countWay_42 t_a0 t_a1 k10 hk10 hf
      · rw [if_neg c4] at hf
        refine vv_iload_n 35 dX6_countWay_34 rfl rfl ?_
        refine vv_aload_n 36 dX6_countWay_35 rfl rfl ?_
        refine gf_RX6_126 39 dX6_countWay_36 rfl t_a0 ?_
        refine vv_icmp_ne 45 42 dX6_countWay_39 rfl (by decide) (fun c5 => ?_) (fun c5 => ?_)
        · rw [if_pos c5] at hf
          exact v_X6_countWay_42 t_a0 t_a1 k10 hk10 hf
        · rw [if_neg c5] at hf
          exact v_X6_countWay_45 t_a0 t_a1 k10 hk10 hf
    · rw [if_neg c3] at hf
      exact VV.lle (v_X6_countWay_51 t_a0 t_a1 hf) (lle_n (lle_n (lle_n (lle_s (lle_n lle_nil)))))

theorem v_X6_countWay_10 {w : Wo} {K : Kn} {a0 : Nat} {a1 : Nat} {x2 : Int32} {q : (Int32 × Mem)} (t_a0 : K a0 = some (.inl 5)) (t_a1 : K a1 = some (.inl 0)) : ∀ (n : Nat) (m : Mem) (x3 : Int32) (x4 : Int32), f_X6_countWay_10 K a0 a1 x2 n m x3 x4 = some q → VV w RX6 cX6_countWay 5 (some .int) rm_X6_countWay false (QM w K (some (.int q.1)) q.2 0 0) K 10 [some (.ref a0), some (.ref a1), some (.int x2), some (.int x3), some (.int x4)] [] 0 0 m := by
  intro n
  induction n with
  | zero => intro m x3 x4 hf; cases hf
  | succ n ih => intro m x3 x4 hf; exact v_X6_countWay_10B (a0 := a0) (a1 := a1) (x2 := x2) t_a0 t_a1 (f_X6_countWay_10 K a0 a1 x2 n) ih hf

set_option maxHeartbeats 4000000 in
theorem v_X6_countWay_0 {w : Wo} {K : Kn} {a0 : Nat} {a1 : Nat} {x2 : Int32} {q : (Int32 × Mem)} (t_a0 : K a0 = some (.inl 5)) (t_a1 : K a1 = some (.inl 0)) {m : Mem} (hf : f_X6_countWay K a0 a1 x2 m = some q) : VV w RX6 cX6_countWay 5 (some .int) rm_X6_countWay false (QM w K (some (.int q.1)) q.2 0 0) K 0 [some (.ref a0), some (.ref a1), some (.int x2), none, none] [] 0 0 m := by
  unfold f_X6_countWay at hf
  refine vv_iconst 1 (v := 0) dX6_countWay_0 rfl (by decide) ?_
  refine vv_istore_n 2 (L' := [some (.ref a0), some (.ref a1), some (.int x2), some (.int (0 : Int32)), none]) dX6_countWay_1 rfl (Nat.le_of_ble_eq_true rfl) rfl ?_
  refine vv_aload_n 3 dX6_countWay_2 rfl rfl ?_
  refine vv_aload_n 4 dX6_countWay_3 rfl rfl ?_
  obtain ⟨q1, g_q1, hf⟩ := bind_s hf
  refine vv_callV 7 (st := []) (As := [.ref a1]) (stk2 := []) (cl2 := 0) (sl2 := 0) dX6_countWay_4 rfl lk_RX6_63 w_628 w_629 rfl t_a0 ⟨(Nat.le_of_ble_eq_true rfl), (Nat.le_of_ble_eq_true rfl)⟩ rfl rfl ⟨(Nat.le_of_ble_eq_true rfl), (Nat.le_of_ble_eq_true rfl)⟩ rfl (Nat.le_of_ble_eq_true rfl) rfl rfl rfl rfl (c_X6_open t_a0 t_a1 g_q1) ?_
  refine vv_iconst 8 (v := 1) dX6_countWay_7 rfl (by decide) ?_
  refine vv_istore 10 (L' := [some (.ref a0), some (.ref a1), some (.int x2), some (.int (0 : Int32)), some (.int (1 : Int32))]) dX6_countWay_8 rfl (Nat.le_of_ble_eq_true rfl) rfl ?_
  exact v_X6_countWay_10 t_a0 t_a1 FU _ _ _ hf

theorem c_X6_countWay {w : Wo} {K : Kn} {a0 : Nat} {a1 : Nat} {x2 : Int32} {q : (Int32 × Mem)} {m : Mem} (t_a0 : K a0 = some (.inl 5)) (t_a1 : K a1 = some (.inl 0)) (hf : F_X6_countWay K m a0 a1 x2 = some q) : MM w K K yX6_countWay cX6_countWay 5 (some .int) rm_X6_countWay [.ref a0, .ref a1, .int x2] m (some (.int q.1)) q.2 0 0 :=
  mm_of (ini := false) (n := 2) (plainFor_of_name (by decide)) rfl (fun h => by first | rfl | cases h) (Nat.le_of_ble_eq_true rfl) rfl (v_X6_countWay_0 t_a0 t_a1 hf)

set_option maxHeartbeats 4000000 in
theorem v_X8_ways_75 {w : Wo} {K : Kn} {a0 : Nat} {x1 : Int32} {x2 : Int32} {q : (Int32 × Mem)} (t_a0 : K a0 = some (.inl 7)) (k34 : Mem → Nat → Int32 → Int32 → Option (Int32 × Mem)) (hk34 : ∀ (m : Mem) (a3 : Nat) (x4 : Int32) (x5 : Int32), K a3 = some (.inl 6) → k34 m a3 x4 x5 = some q → VV w RX8 cX8_ways 7 (some .int) rm_X8_ways false (QM w K (some (.int q.1)) q.2 0 0) K 34 [some (.ref a0), none, some (.int x2), some (.ref a3), some (.int x4), some (.int x5), none] [] 0 0 m) {m : Mem} {a3 : Nat} {x4 : Int32} {x5 : Int32} (t_a3 : K a3 = some (.inl 6)) (hf : f_X8_ways_75 K a0 x1 x2 k34 m a3 x4 x5 = some q) : VV w RX8 cX8_ways 7 (some .int) rm_X8_ways false (QM w K (some (.int q.1)) q.2 0 0) K 75 [some (.ref a0), none, some (.int x2), some (.ref a3), some (.int x4), some (.int x5), none] [] 0 0 m := by
  unfold f_X8_ways_75 at hf
  obtain ⟨z1, e_z1, hf⟩ := bd_s hf
  refine vv_iincE (q := 78) (v := z1) (c := 1) (L' := [some (.ref a0), none, some (.int x2), some (.ref a3), some (.int x4), some (.int z1), none]) e_z1 dX8_ways_75 rfl rfl (by decide) (Nat.le_of_ble_eq_true rfl) rfl ?_
  refine vv_goto 34 dX8_ways_78 (by decide) ?_
  exact hk34 _ _ _ _ t_a3 hf

set_option maxHeartbeats 4000000 in
theorem v_X8_ways_34B {w : Wo} {K : Kn} {a0 : Nat} {x1 : Int32} {x2 : Int32} {q : (Int32 × Mem)} (t_a0 : K a0 = some (.inl 7)) (k34 : Mem → Nat → Int32 → Int32 → Option (Int32 × Mem)) (hk34 : ∀ (m : Mem) (a3 : Nat) (x4 : Int32) (x5 : Int32), K a3 = some (.inl 6) → k34 m a3 x4 x5 = some q → VV w RX8 cX8_ways 7 (some .int) rm_X8_ways false (QM w K (some (.int q.1)) q.2 0 0) K 34 [some (.ref a0), none, some (.int x2), some (.ref a3), some (.int x4), some (.int x5), none] [] 0 0 m) {m : Mem} {a3 : Nat} {x4 : Int32} {x5 : Int32} (t_a3 : K a3 = some (.inl 6)) (hf : f_X8_ways_34B K a0 x1 x2 k34 m a3 x4 x5 = some q) : VV w RX8 cX8_ways 7 (some .int) rm_X8_ways false (QM w K (some (.int q.1)) q.2 0 0) K 34 [some (.ref a0), none, some (.int x2), some (.ref a3), some (.int x4), some (.int x5), none] [] 0 0 m := by
  unfold f_X8_ways_34B at hf
  refine vv_iload 36 dX8_ways_34 rfl rfl ?_
  refine vv_aload_n 37 dX8_ways_36 rfl rfl ?_
  refine gf_RX8_169 40 dX8_ways_37 rfl t_a3 ?_
  refine vv_icmp_ge 81 43 dX8_ways_40 rfl (by decide) (fun c1 => ?_) (fun c1 => ?_)
  · rw [if_pos c1] at hf
    refine vv_iload 83 dX8_ways_81 rfl rfl ?_
    obtain rfl := Option.some.inj hf
    exact vv_iret dX8_ways_83 rfl
  · rw [if_neg c1] at hf
    refine vv_aload_n 44 dX8_ways_43 rfl rfl ?_
    obtain ⟨b2, g_b2, hf⟩ := bind_s hf
    have t_b2 := (ldA_spec g_b2).2
    refine gf_RX8_205 47 dX8_ways_44 rfl t_a3 (ldA_spec g_b2).1 ?_
    refine vv_iload 49 dX8_ways_47 rfl rfl ?_
    obtain ⟨b3, g_b3, hf⟩ := bind_s hf
    have t_b3 := (alO_spec g_b3).2
    refine vv_aald4 50 dX8_ways_49 rfl t_b2 g_b3 ?_
    refine vv_astore 52 (L' := [some (.ref a0), none, some (.int x2), some (.ref a3), some (.int x4), some (.int x5), some (.ref b3)]) dX8_ways_50 rfl (Nat.le_of_ble_eq_true rfl) rfl ?_
    refine vv_aload 54 dX8_ways_52 rfl rfl ?_
    refine gf_RX8_180 57 dX8_ways_54 rfl t_b3 ?_
    refine vv_if_ne 75 60 dX8_ways_57 rfl (by decide) (fun c4 => ?_) (fun c4 => ?_)
    · rw [if_pos c4] at hf
      refine vv_iload 62 dX8_ways_60 rfl rfl ?_
      refine vv_aload_n 63 dX8_ways_62 rfl rfl ?_
      obtain ⟨b5, g_b5, hf⟩ := bind_s hf
      have t_b5 := (ldO_spec g_b5).2
      refine gf_RX8_44 66 dX8_ways_63 rfl t_a0 (ldO_spec g_b5).1 ?_
      refine vv_aload 68 dX8_ways_66 rfl rfl ?_
      refine vv_iload_n 69 dX8_ways_68 rfl rfl ?_
      obtain ⟨q6, g_q6, hf⟩ := bind_s hf
      refine vv_callV 72 (st := [.int x4]) (As := [.ref b3, .int x2]) (stk2 := [.int q6.1, .int x4]) (cl2 := 0) (sl2 := 0) dX8_ways_69 rfl lk_RX8_209 w_757 w_758 rfl t_b5 ⟨(Nat.le_of_ble_eq_true rfl), (Nat.le_of_ble_eq_true rfl)⟩ rfl rfl ⟨(Nat.le_of_ble_eq_true rfl), (Nat.le_of_ble_eq_true rfl)⟩ rfl (Nat.le_of_ble_eq_true rfl) rfl rfl rfl rfl (c_X6_countWay t_b5 t_b3 g_q6) ?_
      refine vv_iadd 73 dX8_ways_72 rfl ?_
      obtain ⟨z7, e_z7, hf⟩ := bd_s hf
      refine vv_istoreE (q := 75) (v := z7) (L' := [some (.ref a0), none, some (.int x2), some (.ref a3), some (.int z7), some (.int x5), some (.ref b3)]) e_z7 dX8_ways_73 rfl (Nat.le_of_ble_eq_true rfl) rfl ?_
      exact VV.lle (v_X8_ways_75 t_a0 k34 hk34 t_a3 hf) (lle_s (lle_s (lle_s (lle_s (lle_s (lle_s (lle_n lle_nil)))))))
    · rw [if_neg c4] at hf
      exact VV.lle (v_X8_ways_75 t_a0 k34 hk34 t_a3 hf) (lle_s (lle_s (lle_s (lle_s (lle_s (lle_s (lle_n lle_nil)))))))

theorem v_X8_ways_34 {w : Wo} {K : Kn} {a0 : Nat} {x1 : Int32} {x2 : Int32} {q : (Int32 × Mem)} (t_a0 : K a0 = some (.inl 7)) : ∀ (n : Nat) (m : Mem) (a3 : Nat) (x4 : Int32) (x5 : Int32), K a3 = some (.inl 6) → f_X8_ways_34 K a0 x1 x2 n m a3 x4 x5 = some q → VV w RX8 cX8_ways 7 (some .int) rm_X8_ways false (QM w K (some (.int q.1)) q.2 0 0) K 34 [some (.ref a0), none, some (.int x2), some (.ref a3), some (.int x4), some (.int x5), none] [] 0 0 m := by
  intro n
  induction n with
  | zero => intro m a3 x4 x5 t_a3 hf; cases hf
  | succ n ih => intro m a3 x4 x5 t_a3 hf; exact v_X8_ways_34B (a0 := a0) (x1 := x1) (x2 := x2) t_a0 (f_X8_ways_34 K a0 x1 x2 n) ih t_a3 hf

set_option maxHeartbeats 4000000 in
theorem v_X8_ways_0 {w : Wo} {K : Kn} {a0 : Nat} {x1 : Int32} {x2 : Int32} {q : (Int32 × Mem)} (t_a0 : K a0 = some (.inl 7)) {m : Mem} (hf : f_X8_ways K a0 x1 x2 m = some q) : VV w RX8 cX8_ways 7 (some .int) rm_X8_ways false (QM w K (some (.int q.1)) q.2 0 0) K 0 [some (.ref a0), some (.int x1), some (.int x2), none, none, none, none] [] 0 0 m := by
  unfold f_X8_ways at hf
  refine vv_aload_n 1 dX8_ways_0 rfl rfl ?_
  refine vv_iload_n 2 dX8_ways_1 rfl rfl ?_
  obtain ⟨q1, g_q1, hf⟩ := bind_s hf
  refine vv_callV 5 (st := []) (As := [.int x1]) (stk2 := [.int q1]) (cl2 := 0) (sl2 := 0) dX8_ways_2 rfl lk_RX8_81 w_469 w_0 rfl t_a0 ⟨(Nat.le_of_ble_eq_true rfl), (Nat.le_of_ble_eq_true rfl)⟩ rfl rfl ⟨(Nat.le_of_ble_eq_true rfl), (Nat.le_of_ble_eq_true rfl)⟩ rfl (Nat.le_of_ble_eq_true rfl) rfl rfl rfl rfl (c_X8_isNone t_a0 g_q1) ?_
  refine vv_if_ne 18 8 dX8_ways_5 rfl (by decide) (fun c2 => ?_) (fun c2 => ?_)
  · rw [if_pos c2] at hf
    refine vv_iload_n 9 dX8_ways_8 rfl rfl ?_
    refine vv_if_lt 18 12 dX8_ways_9 rfl (by decide) (fun c3 => ?_) (fun c3 => ?_)
    · rw [if_pos c3] at hf
      refine vv_bipush 20 (v := (-2)) dX8_ways_18 rfl (by decide) ?_
      obtain rfl := Option.some.inj hf
      exact vv_iret dX8_ways_20 rfl
    · rw [if_neg c3] at hf
      refine vv_iload_n 13 dX8_ways_12 rfl rfl ?_
      refine vv_bipush 15 (v := 7) dX8_ways_13 rfl (by decide) ?_
      refine vv_icmp_le 21 18 dX8_ways_15 rfl (by decide) (fun c4 => ?_) (fun c4 => ?_)
      · rw [if_pos c4] at hf
        refine vv_aload_n 22 dX8_ways_21 rfl rfl ?_
        obtain ⟨b5, g_b5, hf⟩ := bind_s hf
        have t_b5 := (ldA_spec g_b5).2
        refine gf_RX8_11 25 dX8_ways_22 rfl t_a0 (ldA_spec g_b5).1 ?_
        refine vv_iload_n 26 dX8_ways_25 rfl rfl ?_
        obtain ⟨b6, g_b6, hf⟩ := bind_s hf
        have t_b6 := (alO_spec g_b6).2
        refine vv_aald3 27 dX8_ways_26 rfl t_b5 g_b6 ?_
        refine vv_astore_n 28 (L' := [some (.ref a0), some (.int x1), some (.int x2), some (.ref b6), none, none, none]) dX8_ways_27 rfl (Nat.le_of_ble_eq_true rfl) rfl ?_
        refine vv_iconst 29 (v := 0) dX8_ways_28 rfl (by decide) ?_
        refine vv_istore 31 (L' := [some (.ref a0), some (.int x1), some (.int x2), some (.ref b6), some (.int (0 : Int32)), none, none]) dX8_ways_29 rfl (Nat.le_of_ble_eq_true rfl) rfl ?_
        refine vv_iconst 32 (v := 0) dX8_ways_31 rfl (by decide) ?_
        refine vv_istore 34 (L' := [some (.ref a0), some (.int x1), some (.int x2), some (.ref b6), some (.int (0 : Int32)), some (.int (0 : Int32)), none]) dX8_ways_32 rfl (Nat.le_of_ble_eq_true rfl) rfl ?_
        exact VV.lle (v_X8_ways_34 t_a0 FU _ _ _ _ t_b6 hf) (lle_s (lle_n (lle_s (lle_s (lle_s (lle_s (lle_s lle_nil)))))))
      · rw [if_neg c4] at hf
        refine vv_bipush 20 (v := (-2)) dX8_ways_18 rfl (by decide) ?_
        obtain rfl := Option.some.inj hf
        exact vv_iret dX8_ways_20 rfl
  · rw [if_neg c2] at hf
    refine vv_bipush 20 (v := (-2)) dX8_ways_18 rfl (by decide) ?_
    obtain rfl := Option.some.inj hf
    exact vv_iret dX8_ways_20 rfl

theorem c_X8_ways {w : Wo} {K : Kn} {a0 : Nat} {x1 : Int32} {x2 : Int32} {q : (Int32 × Mem)} {m : Mem} (t_a0 : K a0 = some (.inl 7)) (hf : F_X8_ways K m a0 x1 x2 = some q) : MM w K K yX8_ways cX8_ways 7 (some .int) rm_X8_ways [.ref a0, .int x1, .int x2] m (some (.int q.1)) q.2 0 0 :=
  mm_of (ini := false) (n := 4) (plainFor_of_name (by decide)) rfl (fun h => by first | rfl | cases h) (Nat.le_of_ble_eq_true rfl) rfl (v_X8_ways_0 t_a0 hf)

set_option maxHeartbeats 4000000 in
theorem v_X8_window_0 {w : Wo} {K : Kn} {a0 : Nat} {x1 : Int32} {x2 : Int32} {q : Int32} {m : Mem} (t_a0 : K a0 = some (.inl 7)) (hf : f_X8_window K m a0 x1 x2 = some q) : VV w RX8 cX8_window 4 (some .int) rm_X8_window false (QM w K (some (.int q)) m 0 0) K 0 [some (.ref a0), some (.int x1), some (.int x2), none] [] 0 0 m := by
  unfold f_X8_window at hf
  refine vv_aload_n 1 dX8_window_0 rfl rfl ?_
  refine vv_iload_n 2 dX8_window_1 rfl rfl ?_
  obtain ⟨q1, g_q1, hf⟩ := bind_s hf
  refine vv_callV 5 (st := []) (As := [.int x1]) (stk2 := [.int q1]) (cl2 := 0) (sl2 := 0) dX8_window_2 rfl lk_RX8_81 w_469 w_0 rfl t_a0 ⟨(Nat.le_of_ble_eq_true rfl), (Nat.le_of_ble_eq_true rfl)⟩ rfl rfl ⟨(Nat.le_of_ble_eq_true rfl), (Nat.le_of_ble_eq_true rfl)⟩ rfl (Nat.le_of_ble_eq_true rfl) rfl rfl rfl rfl (c_X8_isNone t_a0 g_q1) ?_
  refine vv_if_ne 17 8 dX8_window_5 rfl (by decide) (fun c2 => ?_) (fun c2 => ?_)
  · rw [if_pos c2] at hf
    refine vv_iload_n 9 dX8_window_8 rfl rfl ?_
    refine vv_if_lt 17 12 dX8_window_9 rfl (by decide) (fun c3 => ?_) (fun c3 => ?_)
    · rw [if_pos c3] at hf
      refine vv_bipush 19 (v := (-2)) dX8_window_17 rfl (by decide) ?_
      obtain rfl := Option.some.inj hf
      exact vv_iret dX8_window_19 rfl
    · rw [if_neg c3] at hf
      refine vv_iload_n 13 dX8_window_12 rfl rfl ?_
      refine vv_iconst 14 (v := 1) dX8_window_13 rfl (by decide) ?_
      refine vv_icmp_le 20 17 dX8_window_14 rfl (by decide) (fun c4 => ?_) (fun c4 => ?_)
      · rw [if_pos c4] at hf
        refine vv_aload_n 21 dX8_window_20 rfl rfl ?_
        obtain ⟨b5, g_b5, hf⟩ := bind_s hf
        have t_b5 := (ldA_spec g_b5).2
        refine gf_RX8_11 24 dX8_window_21 rfl t_a0 (ldA_spec g_b5).1 ?_
        refine vv_iload_n 25 dX8_window_24 rfl rfl ?_
        obtain ⟨b6, g_b6, hf⟩ := bind_s hf
        have t_b6 := (alO_spec g_b6).2
        refine vv_aald3 26 dX8_window_25 rfl t_b5 g_b6 ?_
        refine vv_astore_n 27 (L' := [some (.ref a0), some (.int x1), some (.int x2), some (.ref b6)]) dX8_window_26 rfl (Nat.le_of_ble_eq_true rfl) rfl ?_
        refine vv_aload_n 28 dX8_window_27 rfl rfl ?_
        obtain ⟨q7, g_q7, hf⟩ := bind_s hf
        refine vv_callV 31 (st := []) (As := []) (stk2 := [va_rf q7]) (cl2 := 0) (sl2 := 0) dX8_window_28 rfl lk_RX8_114 w_484 w_485 rfl t_b6 ⟨(Nat.le_of_ble_eq_true rfl), (Nat.le_of_ble_eq_true rfl)⟩ rfl rfl ⟨(Nat.le_of_ble_eq_true rfl), (Nat.le_of_ble_eq_true rfl)⟩ rfl (Nat.le_of_ble_eq_true rfl) rfl rfl rfl rfl (c_X7_openBlock t_b6 g_q7) ?_
        rcases caseO_s hf with ⟨ho, hf⟩ | ⟨b8, ho, hf⟩
        · subst ho
          refine vv_ifnullN 45 dX8_window_31 (by decide) ?_
          refine vv_iconst 46 (v := (-1)) dX8_window_45 rfl (by decide) ?_
          obtain rfl := Option.some.inj hf
          exact vv_iret dX8_window_46 rfl
        · subst ho
          obtain ⟨t_b8, hf⟩ := gd_s hf
          refine vv_ifnull 34 dX8_window_31 rfl ?_
          refine vv_aload_n 35 dX8_window_34 rfl rfl ?_
          obtain ⟨b9, g_b9, hf⟩ := bind_s hf
          have t_b9 := (ldO_spec g_b9).2
          refine gf_RX8_108 38 dX8_window_35 rfl t_b6 (ldO_spec g_b9).1 ?_
          refine gf_RX8_212 41 dX8_window_38 rfl t_b9 ?_
          refine vv_iconst 42 (v := (-1)) dX8_window_41 rfl (by decide) ?_
          refine vv_icmp_ne 47 45 dX8_window_42 rfl (by decide) (fun c10 => ?_) (fun c10 => ?_)
          · rw [if_pos c10] at hf
            refine vv_iconst 46 (v := (-1)) dX8_window_45 rfl (by decide) ?_
            obtain rfl := Option.some.inj hf
            exact vv_iret dX8_window_46 rfl
          · rw [if_neg c10] at hf
            refine vv_iload_n 48 dX8_window_47 rfl rfl ?_
            refine vv_if_ne 61 51 dX8_window_48 rfl (by decide) (fun c11 => ?_) (fun c11 => ?_)
            · rw [if_pos c11] at hf
              refine vv_aload_n 52 dX8_window_51 rfl rfl ?_
              obtain ⟨b12, g_b12, hf⟩ := bind_s hf
              have t_b12 := (ldO_spec g_b12).2
              refine gf_RX8_108 55 dX8_window_52 rfl t_b6 (ldO_spec g_b12).1 ?_
              refine gf_RX8_212 58 dX8_window_55 rfl t_b12 ?_
              refine vv_goto 68 dX8_window_58 (by decide) ?_
              obtain rfl := Option.some.inj hf
              exact vv_iret dX8_window_68 rfl
            · rw [if_neg c11] at hf
              refine vv_aload_n 62 dX8_window_61 rfl rfl ?_
              obtain ⟨b13, g_b13, hf⟩ := bind_s hf
              have t_b13 := (ldO_spec g_b13).2
              refine gf_RX8_108 65 dX8_window_62 rfl t_b6 (ldO_spec g_b13).1 ?_
              refine gf_RX8_215 68 dX8_window_65 rfl t_b13 ?_
              obtain rfl := Option.some.inj hf
              exact vv_iret dX8_window_68 rfl
      · rw [if_neg c4] at hf
        refine vv_bipush 19 (v := (-2)) dX8_window_17 rfl (by decide) ?_
        obtain rfl := Option.some.inj hf
        exact vv_iret dX8_window_19 rfl
  · rw [if_neg c2] at hf
    refine vv_bipush 19 (v := (-2)) dX8_window_17 rfl (by decide) ?_
    obtain rfl := Option.some.inj hf
    exact vv_iret dX8_window_19 rfl

theorem c_X8_window {w : Wo} {K : Kn} {a0 : Nat} {x1 : Int32} {x2 : Int32} {q : Int32} {m : Mem} (t_a0 : K a0 = some (.inl 7)) (hf : F_X8_window K m a0 x1 x2 = some q) : MM w K K yX8_window cX8_window 4 (some .int) rm_X8_window [.ref a0, .int x1, .int x2] m (some (.int q)) m 0 0 :=
  mm_of (ini := false) (n := 1) (plainFor_of_name (by decide)) rfl (fun h => by first | rfl | cases h) (Nat.le_of_ble_eq_true rfl) rfl (v_X8_window_0 t_a0 hf)

set_option maxHeartbeats 4000000 in
theorem v_X5_longestGap_54 {w : Wo} {K : Kn} {a0 : Nat} {x1 : Int32} {q : Int32} {m : Mem} (t_a0 : K a0 = some (.inl 4)) (k7 : Int32 → Int32 → Int32 → Option Int32) (hk7 : ∀ (x2 : Int32) (x3 : Int32) (x4 : Int32), k7 x2 x3 x4 = some q → VV w RX5 cX5_longestGap 6 (some .int) rm_X5_longestGap false (QM w K (some (.int q)) m 0 0) K 7 [some (.ref a0), some (.int x1), some (.int x2), some (.int x3), some (.int x4), none] [] 0 0 m) {x2 : Int32} {x3 : Int32} {x4 : Int32} (hf : f_X5_longestGap_54 K m a0 x1 k7 x2 x3 x4 = some q) : VV w RX5 cX5_longestGap 6 (some .int) rm_X5_longestGap false (QM w K (some (.int q)) m 0 0) K 54 [some (.ref a0), some (.int x1), some (.int x2), some (.int x3), some (.int x4), none] [] 0 0 m := by
  unfold f_X5_longestGap_54 at hf
  obtain ⟨z1, e_z1, hf⟩ := bd_s hf
  refine vv_iincE (q := 57) (v := z1) (c := 1) (L' := [some (.ref a0), some (.int x1), some (.int x2), some (.int x3), some (.int z1), none]) e_z1 dX5_longestGap_54 rfl rfl (by decide) (Nat.le_of_ble_eq_true rfl) rfl ?_
  refine vv_goto 7 dX5_longestGap_57 (by decide) ?_
  exact hk7 _ _ _ hf

set_option maxHeartbeats 4000000 in
theorem v_X5_longestGap_7B {w : Wo} {K : Kn} {a0 : Nat} {x1 : Int32} {q : Int32} {m : Mem} (t_a0 : K a0 = some (.inl 4)) (k7 : Int32 → Int32 → Int32 → Option Int32) (hk7 : ∀ (x2 : Int32) (x3 : Int32) (x4 : Int32), k7 x2 x3 x4 = some q → VV w RX5 cX5_longestGap 6 (some .int) rm_X5_longestGap false (QM w K (some (.int q)) m 0 0) K 7 [some (.ref a0), some (.int x1), some (.int x2), some (.int x3), some (.int x4), none] [] 0 0 m) {x2 : Int32} {x3 : Int32} {x4 : Int32} (hf : f_X5_longestGap_7B K m a0 x1 k7 x2 x3 x4 = some q) : VV w RX5 cX5_longestGap 6 (some .int) rm_X5_longestGap false (QM w K (some (.int q)) m 0 0) K 7 [some (.ref a0), some (.int x1), some (.int x2), some (.int x3), some (.int x4), none] [] 0 0 m := by
  unfold f_X5_longestGap_7B at hf
  refine vv_iload 9 dX5_longestGap_7 rfl rfl ?_
  refine vv_aload_n 10 dX5_longestGap_9 rfl rfl ?_
  refine gf_RX5_19 13 dX5_longestGap_10 rfl t_a0 ?_
  refine vv_icmp_ge 60 16 dX5_longestGap_13 rfl (by decide) (fun c1 => ?_) (fun c1 => ?_)
  · rw [if_pos c1] at hf
    refine vv_iload_n 61 dX5_longestGap_60 rfl rfl ?_
    refine vv_if_eq 68 64 dX5_longestGap_61 rfl (by decide) (fun c2 => ?_) (fun c2 => ?_)
    · rw [if_pos c2] at hf
      refine vv_iload_n 69 dX5_longestGap_68 rfl rfl ?_
      obtain rfl := Option.some.inj hf
      exact vv_iret dX5_longestGap_69 rfl
    · rw [if_neg c2] at hf
      refine vv_iload_n 65 dX5_longestGap_64 rfl rfl ?_
      refine vv_goto 69 dX5_longestGap_65 (by decide) ?_
      obtain rfl := Option.some.inj hf
      exact vv_iret dX5_longestGap_69 rfl
  · rw [if_neg c1] at hf
    refine vv_aload_n 17 dX5_longestGap_16 rfl rfl ?_
    obtain ⟨b3, g_b3, hf⟩ := bind_s hf
    have t_b3 := (ldA_spec g_b3).2
    refine gf_RX5_9 20 dX5_longestGap_17 rfl t_a0 (ldA_spec g_b3).1 ?_
    refine vv_iload 22 dX5_longestGap_20 rfl rfl ?_
    obtain ⟨r4, g_r4, hf⟩ := bind_s hf
    refine vv_iald 23 dX5_longestGap_22 rfl t_b3 g_r4 ?_
    refine vv_aload_n 24 dX5_longestGap_23 rfl rfl ?_
    obtain ⟨b5, g_b5, hf⟩ := bind_s hf
    have t_b5 := (ldA_spec g_b5).2
    refine gf_RX5_9 27 dX5_longestGap_24 rfl t_a0 (ldA_spec g_b5).1 ?_
    refine vv_iload 29 dX5_longestGap_27 rfl rfl ?_
    refine vv_iconst 30 (v := 1) dX5_longestGap_29 rfl (by decide) ?_
    refine vv_isub 31 dX5_longestGap_30 rfl ?_
    obtain ⟨r6, g_r6, hf⟩ := bind_s hf
    refine vv_iald 32 dX5_longestGap_31 rfl t_b5 g_r6 ?_
    refine vv_isub 33 dX5_longestGap_32 rfl ?_
    obtain ⟨z7, e_z7, hf⟩ := bd_s hf
    refine vv_istoreE (q := 35) (v := z7) (L' := [some (.ref a0), some (.int x1), some (.int x2), some (.int x3), some (.int x4), some (.int z7)]) e_z7 dX5_longestGap_33 rfl (Nat.le_of_ble_eq_true rfl) rfl ?_
    refine vv_iload 37 dX5_longestGap_35 rfl rfl ?_
    refine vv_iload_n 38 dX5_longestGap_37 rfl rfl ?_
    refine vv_icmp_le 54 41 dX5_longestGap_38 rfl (by decide) (fun c8 => ?_) (fun c8 => ?_)
    · rw [if_pos c8] at hf
      exact VV.lle (v_X5_longestGap_54 t_a0 k7 hk7 hf) (lle_s (lle_s (lle_s (lle_s (lle_s (lle_n lle_nil))))))
    · rw [if_neg c8] at hf
      refine vv_iload 43 dX5_longestGap_41 rfl rfl ?_
      refine vv_istore_n 44 (L' := [some (.ref a0), some (.int x1), some (.int z7), some (.int x3), some (.int x4), some (.int z7)]) dX5_longestGap_43 rfl (Nat.le_of_ble_eq_true rfl) rfl ?_
      refine vv_aload_n 45 dX5_longestGap_44 rfl rfl ?_
      obtain ⟨b9, g_b9, hf⟩ := bind_s hf
      have t_b9 := (ldA_spec g_b9).2
      refine gf_RX5_9 48 dX5_longestGap_45 rfl t_a0 (ldA_spec g_b9).1 ?_
      refine vv_iload 50 dX5_longestGap_48 rfl rfl ?_
      refine vv_iconst 51 (v := 1) dX5_longestGap_50 rfl (by decide) ?_
      refine vv_isub 52 dX5_longestGap_51 rfl ?_
      obtain ⟨r10, g_r10, hf⟩ := bind_s hf
      refine vv_iald 53 dX5_longestGap_52 rfl t_b9 g_r10 ?_
      refine vv_istore_n 54 (L' := [some (.ref a0), some (.int x1), some (.int z7), some (.int r10), some (.int x4), some (.int z7)]) dX5_longestGap_53 rfl (Nat.le_of_ble_eq_true rfl) rfl ?_
      exact VV.lle (v_X5_longestGap_54 t_a0 k7 hk7 hf) (lle_s (lle_s (lle_s (lle_s (lle_s (lle_n lle_nil))))))

theorem v_X5_longestGap_7 {w : Wo} {K : Kn} {a0 : Nat} {x1 : Int32} {q : Int32} {m : Mem} (t_a0 : K a0 = some (.inl 4)) : ∀ (n : Nat) (x2 : Int32) (x3 : Int32) (x4 : Int32), f_X5_longestGap_7 K m a0 x1 n x2 x3 x4 = some q → VV w RX5 cX5_longestGap 6 (some .int) rm_X5_longestGap false (QM w K (some (.int q)) m 0 0) K 7 [some (.ref a0), some (.int x1), some (.int x2), some (.int x3), some (.int x4), none] [] 0 0 m := by
  intro n
  induction n with
  | zero => intro x2 x3 x4 hf; cases hf
  | succ n ih => intro x2 x3 x4 hf; exact v_X5_longestGap_7B (a0 := a0) (x1 := x1) t_a0 (f_X5_longestGap_7 K m a0 x1 n) ih hf

set_option maxHeartbeats 4000000 in
theorem v_X5_longestGap_0 {w : Wo} {K : Kn} {a0 : Nat} {x1 : Int32} {q : Int32} {m : Mem} (t_a0 : K a0 = some (.inl 4)) (hf : f_X5_longestGap K m a0 x1 = some q) : VV w RX5 cX5_longestGap 6 (some .int) rm_X5_longestGap false (QM w K (some (.int q)) m 0 0) K 0 [some (.ref a0), some (.int x1), none, none, none, none] [] 0 0 m := by
  unfold f_X5_longestGap at hf
  refine vv_iconst 1 (v := (-1)) dX5_longestGap_0 rfl (by decide) ?_
  refine vv_istore_n 2 (L' := [some (.ref a0), some (.int x1), some (.int (-1 : Int32)), none, none, none]) dX5_longestGap_1 rfl (Nat.le_of_ble_eq_true rfl) rfl ?_
  refine vv_iconst 3 (v := (-1)) dX5_longestGap_2 rfl (by decide) ?_
  refine vv_istore_n 4 (L' := [some (.ref a0), some (.int x1), some (.int (-1 : Int32)), some (.int (-1 : Int32)), none, none]) dX5_longestGap_3 rfl (Nat.le_of_ble_eq_true rfl) rfl ?_
  refine vv_iconst 5 (v := 1) dX5_longestGap_4 rfl (by decide) ?_
  refine vv_istore 7 (L' := [some (.ref a0), some (.int x1), some (.int (-1 : Int32)), some (.int (-1 : Int32)), some (.int (1 : Int32)), none]) dX5_longestGap_5 rfl (Nat.le_of_ble_eq_true rfl) rfl ?_
  exact v_X5_longestGap_7 t_a0 FU _ _ _ hf

theorem c_X5_longestGap {w : Wo} {K : Kn} {a0 : Nat} {x1 : Int32} {q : Int32} {m : Mem} (t_a0 : K a0 = some (.inl 4)) (hf : F_X5_longestGap K m a0 x1 = some q) : MM w K K yX5_longestGap cX5_longestGap 6 (some .int) rm_X5_longestGap [.ref a0, .int x1] m (some (.int q)) m 0 0 :=
  mm_of (ini := false) (n := 4) (plainFor_of_name (by decide)) rfl (fun h => by first | rfl | cases h) (Nat.le_of_ble_eq_true rfl) rfl (v_X5_longestGap_0 t_a0 hf)

set_option maxHeartbeats 4000000 in
theorem v_X8_gap_34 {w : Wo} {K : Kn} {a0 : Nat} {x1 : Int32} {x2 : Int32} {q : (Int32 × Mem)} (t_a0 : K a0 = some (.inl 7)) {m : Mem} {sa0 : Nat} {s1 : Int32} (t_sa0 : K sa0 = some (.inl 4)) (hf : f_X8_gap_34 K a0 x1 x2 m sa0 s1 = some q) : VV w RX8 cX8_gap 3 (some .int) rm_X8_gap false (QM w K (some (.int q.1)) q.2 0 0) K 34 [none, none, none] [.int s1, .ref sa0] 0 0 m := by
  unfold f_X8_gap_34 at hf
  obtain ⟨q1, g_q1, hf⟩ := bind_s hf
  refine vv_callV 37 (st := []) (As := [.int s1]) (stk2 := [.int q1]) (cl2 := 0) (sl2 := 0) dX8_gap_34 rfl lk_RX8_253 w_815 w_816 rfl t_sa0 ⟨(Nat.le_of_ble_eq_true rfl), (Nat.le_of_ble_eq_true rfl)⟩ rfl rfl ⟨(Nat.le_of_ble_eq_true rfl), (Nat.le_of_ble_eq_true rfl)⟩ rfl (Nat.le_of_ble_eq_true rfl) rfl rfl rfl rfl (c_X5_longestGap t_sa0 g_q1) ?_
  obtain rfl := Option.some.inj hf
  exact vv_iret dX8_gap_37 rfl

set_option maxHeartbeats 4000000 in
theorem v_X8_gap_0 {w : Wo} {K : Kn} {a0 : Nat} {x1 : Int32} {x2 : Int32} {q : (Int32 × Mem)} (t_a0 : K a0 = some (.inl 7)) {m : Mem} (hf : f_X8_gap K a0 x1 x2 m = some q) : VV w RX8 cX8_gap 3 (some .int) rm_X8_gap false (QM w K (some (.int q.1)) q.2 0 0) K 0 [some (.ref a0), some (.int x1), some (.int x2)] [] 0 0 m := by
  unfold f_X8_gap at hf
  refine vv_aload_n 1 dX8_gap_0 rfl rfl ?_
  refine vv_iload_n 2 dX8_gap_1 rfl rfl ?_
  obtain ⟨q1, g_q1, hf⟩ := bind_s hf
  refine vv_callV 5 (st := []) (As := [.int x1]) (stk2 := [.int q1]) (cl2 := 0) (sl2 := 0) dX8_gap_2 rfl lk_RX8_81 w_469 w_0 rfl t_a0 ⟨(Nat.le_of_ble_eq_true rfl), (Nat.le_of_ble_eq_true rfl)⟩ rfl rfl ⟨(Nat.le_of_ble_eq_true rfl), (Nat.le_of_ble_eq_true rfl)⟩ rfl (Nat.le_of_ble_eq_true rfl) rfl rfl rfl rfl (c_X8_isNone t_a0 g_q1) ?_
  refine vv_if_ne 17 8 dX8_gap_5 rfl (by decide) (fun c2 => ?_) (fun c2 => ?_)
  · rw [if_pos c2] at hf
    refine vv_iload_n 9 dX8_gap_8 rfl rfl ?_
    refine vv_if_lt 17 12 dX8_gap_9 rfl (by decide) (fun c3 => ?_) (fun c3 => ?_)
    · rw [if_pos c3] at hf
      refine vv_bipush 19 (v := (-2)) dX8_gap_17 rfl (by decide) ?_
      obtain rfl := Option.some.inj hf
      exact vv_iret dX8_gap_19 rfl
    · rw [if_neg c3] at hf
      refine vv_iload_n 13 dX8_gap_12 rfl rfl ?_
      refine vv_iconst 14 (v := 1) dX8_gap_13 rfl (by decide) ?_
      refine vv_icmp_le 20 17 dX8_gap_14 rfl (by decide) (fun c4 => ?_) (fun c4 => ?_)
      · rw [if_pos c4] at hf
        refine vv_aload_n 21 dX8_gap_20 rfl rfl ?_
        refine vv_iload_n 22 dX8_gap_21 rfl rfl ?_
        obtain ⟨q5, g_q5, hf⟩ := bind_s hf
        refine vv_callV 25 (st := []) (As := [.int x1]) (stk2 := [.ref q5.1]) (cl2 := 0) (sl2 := 0) dX8_gap_22 rfl lk_RX8_176 w_694 w_11 rfl t_a0 ⟨(Nat.le_of_ble_eq_true rfl), (Nat.le_of_ble_eq_true rfl)⟩ rfl rfl ⟨(Nat.le_of_ble_eq_true rfl), (Nat.le_of_ble_eq_true rfl)⟩ rfl (Nat.le_of_ble_eq_true rfl) rfl rfl rfl rfl (c_X8_gathered t_a0 g_q5) ?_
        obtain ⟨t_6, hf⟩ := gd_s hf
        refine vv_iload_n 26 dX8_gap_25 rfl rfl ?_
        refine vv_if_ne 33 29 dX8_gap_26 rfl (by decide) (fun c7 => ?_) (fun c7 => ?_)
        · rw [if_pos c7] at hf
          refine vv_iconst 30 (v := 1) dX8_gap_29 rfl (by decide) ?_
          refine vv_goto 34 dX8_gap_30 (by decide) ?_
          exact VV.lle (v_X8_gap_34 t_a0 t_6 hf) (lle_n (lle_n (lle_n lle_nil)))
        · rw [if_neg c7] at hf
          refine vv_iconst 34 (v := 0) dX8_gap_33 rfl (by decide) ?_
          exact VV.lle (v_X8_gap_34 t_a0 t_6 hf) (lle_n (lle_n (lle_n lle_nil)))
      · rw [if_neg c4] at hf
        refine vv_bipush 19 (v := (-2)) dX8_gap_17 rfl (by decide) ?_
        obtain rfl := Option.some.inj hf
        exact vv_iret dX8_gap_19 rfl
  · rw [if_neg c2] at hf
    refine vv_bipush 19 (v := (-2)) dX8_gap_17 rfl (by decide) ?_
    obtain rfl := Option.some.inj hf
    exact vv_iret dX8_gap_19 rfl

theorem c_X8_gap {w : Wo} {K : Kn} {a0 : Nat} {x1 : Int32} {x2 : Int32} {q : (Int32 × Mem)} {m : Mem} (t_a0 : K a0 = some (.inl 7)) (hf : F_X8_gap K m a0 x1 x2 = some q) : MM w K K yX8_gap cX8_gap 3 (some .int) rm_X8_gap [.ref a0, .int x1, .int x2] m (some (.int q.1)) q.2 0 0 :=
  mm_of (ini := false) (n := 0) (plainFor_of_name (by decide)) rfl (fun h => by first | rfl | cases h) (Nat.le_of_ble_eq_true rfl) rfl (v_X8_gap_0 t_a0 hf)

set_option maxHeartbeats 4000000 in
theorem v_X5_longestSame_43 {w : Wo} {K : Kn} {a0 : Nat} {q : Int32} {m : Mem} (t_a0 : K a0 = some (.inl 4)) (k6 : Int32 → Int32 → Int32 → Option Int32) (hk6 : ∀ (x1 : Int32) (x2 : Int32) (x3 : Int32), k6 x1 x2 x3 = some q → VV w RX5 cX5_longestSame 4 (some .int) rm_X5_longestSame false (QM w K (some (.int q)) m 0 0) K 6 [some (.ref a0), some (.int x1), some (.int x2), some (.int x3)] [] 0 0 m) {x1 : Int32} {x3 : Int32} {s0 : Int32} (hf : f_X5_longestSame_43 K m a0 k6 x1 x3 s0 = some q) : VV w RX5 cX5_longestSame 4 (some .int) rm_X5_longestSame false (QM w K (some (.int q)) m 0 0) K 43 [some (.ref a0), some (.int x1), none, some (.int x3)] [.int s0] 0 0 m := by
  unfold f_X5_longestSame_43 at hf
  refine vv_istore_n 44 (L' := [some (.ref a0), some (.int x1), some (.int s0), some (.int x3)]) dX5_longestSame_43 rfl (Nat.le_of_ble_eq_true rfl) rfl ?_
  refine vv_iload_n 45 dX5_longestSame_44 rfl rfl ?_
  refine vv_iload_n 46 dX5_longestSame_45 rfl rfl ?_
  obtain ⟨q1, g_q1, hf⟩ := bind_s hf
  refine vv_callS 49 (st := []) (As := [.int x1, .int s0]) (stk2 := [.int q1]) (cl2 := 0) (sl2 := 0) dX5_longestSame_46 rfl lk_RX5_31 w_827 ⟨(Nat.le_of_ble_eq_true rfl), (Nat.le_of_ble_eq_true rfl)⟩ rfl rfl ⟨(Nat.le_of_ble_eq_true rfl), (Nat.le_of_ble_eq_true rfl)⟩ rfl (Nat.le_of_ble_eq_true rfl) rfl rfl rfl rfl (c_J9_max_7cf53 g_q1) ?_
  refine vv_istore_n 50 (L' := [some (.ref a0), some (.int q1), some (.int s0), some (.int x3)]) dX5_longestSame_49 rfl (Nat.le_of_ble_eq_true rfl) rfl ?_
  obtain ⟨z2, e_z2, hf⟩ := bd_s hf
  refine vv_iincE (q := 53) (v := z2) (c := 1) (L' := [some (.ref a0), some (.int q1), some (.int s0), some (.int z2)]) e_z2 dX5_longestSame_50 rfl rfl (by decide) (Nat.le_of_ble_eq_true rfl) rfl ?_
  refine vv_goto 6 dX5_longestSame_53 (by decide) ?_
  exact hk6 _ _ _ hf

set_option maxHeartbeats 4000000 in
theorem v_X5_longestSame_42 {w : Wo} {K : Kn} {a0 : Nat} {q : Int32} {m : Mem} (t_a0 : K a0 = some (.inl 4)) (k6 : Int32 → Int32 → Int32 → Option Int32) (hk6 : ∀ (x1 : Int32) (x2 : Int32) (x3 : Int32), k6 x1 x2 x3 = some q → VV w RX5 cX5_longestSame 4 (some .int) rm_X5_longestSame false (QM w K (some (.int q)) m 0 0) K 6 [some (.ref a0), some (.int x1), some (.int x2), some (.int x3)] [] 0 0 m) {x1 : Int32} {x3 : Int32} (hf : f_X5_longestSame_42 K m a0 k6 x1 x3 = some q) : VV w RX5 cX5_longestSame 4 (some .int) rm_X5_longestSame false (QM w K (some (.int q)) m 0 0) K 42 [some (.ref a0), some (.int x1), none, some (.int x3)] [] 0 0 m := by
  unfold f_X5_longestSame_42 at hf
  refine vv_iconst 43 (v := 1) dX5_longestSame_42 rfl (by decide) ?_
  exact v_X5_longestSame_43 t_a0 k6 hk6 hf

set_option maxHeartbeats 4000000 in
theorem v_X5_longestSame_6B {w : Wo} {K : Kn} {a0 : Nat} {q : Int32} {m : Mem} (t_a0 : K a0 = some (.inl 4)) (k6 : Int32 → Int32 → Int32 → Option Int32) (hk6 : ∀ (x1 : Int32) (x2 : Int32) (x3 : Int32), k6 x1 x2 x3 = some q → VV w RX5 cX5_longestSame 4 (some .int) rm_X5_longestSame false (QM w K (some (.int q)) m 0 0) K 6 [some (.ref a0), some (.int x1), some (.int x2), some (.int x3)] [] 0 0 m) {x1 : Int32} {x2 : Int32} {x3 : Int32} (hf : f_X5_longestSame_6B K m a0 k6 x1 x2 x3 = some q) : VV w RX5 cX5_longestSame 4 (some .int) rm_X5_longestSame false (QM w K (some (.int q)) m 0 0) K 6 [some (.ref a0), some (.int x1), some (.int x2), some (.int x3)] [] 0 0 m := by
  unfold f_X5_longestSame_6B at hf
  refine vv_iload_n 7 dX5_longestSame_6 rfl rfl ?_
  refine vv_aload_n 8 dX5_longestSame_7 rfl rfl ?_
  refine gf_RX5_19 11 dX5_longestSame_8 rfl t_a0 ?_
  refine vv_icmp_ge 56 14 dX5_longestSame_11 rfl (by decide) (fun c1 => ?_) (fun c1 => ?_)
  · rw [if_pos c1] at hf
    refine vv_iload_n 57 dX5_longestSame_56 rfl rfl ?_
    obtain rfl := Option.some.inj hf
    exact vv_iret dX5_longestSame_57 rfl
  · rw [if_neg c1] at hf
    refine vv_iload_n 15 dX5_longestSame_14 rfl rfl ?_
    refine vv_if_le 42 18 dX5_longestSame_15 rfl (by decide) (fun c2 => ?_) (fun c2 => ?_)
    · rw [if_pos c2] at hf
      exact VV.lle (v_X5_longestSame_42 t_a0 k6 hk6 hf) (lle_s (lle_s (lle_n (lle_s lle_nil))))
    · rw [if_neg c2] at hf
      refine vv_aload_n 19 dX5_longestSame_18 rfl rfl ?_
      obtain ⟨b3, g_b3, hf⟩ := bind_s hf
      have t_b3 := (ldA_spec g_b3).2
      refine gf_RX5_15 22 dX5_longestSame_19 rfl t_a0 (ldA_spec g_b3).1 ?_
      refine vv_iload_n 23 dX5_longestSame_22 rfl rfl ?_
      obtain ⟨r4, g_r4, hf⟩ := bind_s hf
      refine vv_lald 24 dX5_longestSame_23 rfl t_b3 g_r4 ?_
      refine vv_aload_n 25 dX5_longestSame_24 rfl rfl ?_
      obtain ⟨b5, g_b5, hf⟩ := bind_s hf
      have t_b5 := (ldA_spec g_b5).2
      refine gf_RX5_15 28 dX5_longestSame_25 rfl t_a0 (ldA_spec g_b5).1 ?_
      refine vv_iload_n 29 dX5_longestSame_28 rfl rfl ?_
      refine vv_iconst 30 (v := 1) dX5_longestSame_29 rfl (by decide) ?_
      refine vv_isub 31 dX5_longestSame_30 rfl ?_
      obtain ⟨r6, g_r6, hf⟩ := bind_s hf
      refine vv_lald 32 dX5_longestSame_31 rfl t_b5 g_r6 ?_
      refine vv_lcmp 33 dX5_longestSame_32 rfl ?_
      refine vv_if_ne 42 36 dX5_longestSame_33 rfl (by decide) (fun c7 => ?_) (fun c7 => ?_)
      · rw [if_pos c7] at hf
        refine vv_iload_n 37 dX5_longestSame_36 rfl rfl ?_
        refine vv_iconst 38 (v := 1) dX5_longestSame_37 rfl (by decide) ?_
        refine vv_iadd 39 dX5_longestSame_38 rfl ?_
        refine vv_goto 43 dX5_longestSame_39 (by decide) ?_
        exact VV.lle (v_X5_longestSame_43 t_a0 k6 hk6 hf) (lle_s (lle_s (lle_n (lle_s lle_nil))))
      · rw [if_neg c7] at hf
        exact VV.lle (v_X5_longestSame_42 t_a0 k6 hk6 hf) (lle_s (lle_s (lle_n (lle_s lle_nil))))

theorem v_X5_longestSame_6 {w : Wo} {K : Kn} {a0 : Nat} {q : Int32} {m : Mem} (t_a0 : K a0 = some (.inl 4)) : ∀ (n : Nat) (x1 : Int32) (x2 : Int32) (x3 : Int32), f_X5_longestSame_6 K m a0 n x1 x2 x3 = some q → VV w RX5 cX5_longestSame 4 (some .int) rm_X5_longestSame false (QM w K (some (.int q)) m 0 0) K 6 [some (.ref a0), some (.int x1), some (.int x2), some (.int x3)] [] 0 0 m := by
  intro n
  induction n with
  | zero => intro x1 x2 x3 hf; cases hf
  | succ n ih => intro x1 x2 x3 hf; exact v_X5_longestSame_6B (a0 := a0) t_a0 (f_X5_longestSame_6 K m a0 n) ih hf

set_option maxHeartbeats 4000000 in
theorem v_X5_longestSame_0 {w : Wo} {K : Kn} {a0 : Nat} {q : Int32} {m : Mem} (t_a0 : K a0 = some (.inl 4)) (hf : f_X5_longestSame K m a0 = some q) : VV w RX5 cX5_longestSame 4 (some .int) rm_X5_longestSame false (QM w K (some (.int q)) m 0 0) K 0 [some (.ref a0), none, none, none] [] 0 0 m := by
  unfold f_X5_longestSame at hf
  refine vv_iconst 1 (v := 0) dX5_longestSame_0 rfl (by decide) ?_
  refine vv_istore_n 2 (L' := [some (.ref a0), some (.int (0 : Int32)), none, none]) dX5_longestSame_1 rfl (Nat.le_of_ble_eq_true rfl) rfl ?_
  refine vv_iconst 3 (v := 0) dX5_longestSame_2 rfl (by decide) ?_
  refine vv_istore_n 4 (L' := [some (.ref a0), some (.int (0 : Int32)), some (.int (0 : Int32)), none]) dX5_longestSame_3 rfl (Nat.le_of_ble_eq_true rfl) rfl ?_
  refine vv_iconst 5 (v := 0) dX5_longestSame_4 rfl (by decide) ?_
  refine vv_istore_n 6 (L' := [some (.ref a0), some (.int (0 : Int32)), some (.int (0 : Int32)), some (.int (0 : Int32))]) dX5_longestSame_5 rfl (Nat.le_of_ble_eq_true rfl) rfl ?_
  exact v_X5_longestSame_6 t_a0 FU _ _ _ hf

theorem c_X5_longestSame {w : Wo} {K : Kn} {a0 : Nat} {q : Int32} {m : Mem} (t_a0 : K a0 = some (.inl 4)) (hf : F_X5_longestSame K m a0 = some q) : MM w K K yX5_longestSame cX5_longestSame 4 (some .int) rm_X5_longestSame [.ref a0] m (some (.int q)) m 0 0 :=
  mm_of (ini := false) (n := 3) (plainFor_of_name (by decide)) rfl (fun h => by first | rfl | cases h) (Nat.le_of_ble_eq_true rfl) rfl (v_X5_longestSame_0 t_a0 hf)

set_option maxHeartbeats 4000000 in
theorem v_X5_longestRise_67 {w : Wo} {K : Kn} {a0 : Nat} {q : Int32} {m : Mem} (t_a0 : K a0 = some (.inl 4)) (k6 : Int32 → Int32 → Int32 → Option Int32) (hk6 : ∀ (x1 : Int32) (x2 : Int32) (x3 : Int32), k6 x1 x2 x3 = some q → VV w RX5 cX5_longestRise 4 (some .int) rm_X5_longestRise false (QM w K (some (.int q)) m 0 0) K 6 [some (.ref a0), some (.int x1), some (.int x2), some (.int x3)] [] 0 0 m) {x1 : Int32} {x2 : Int32} {x3 : Int32} (hf : f_X5_longestRise_67 K m a0 k6 x1 x2 x3 = some q) : VV w RX5 cX5_longestRise 4 (some .int) rm_X5_longestRise false (QM w K (some (.int q)) m 0 0) K 67 [some (.ref a0), some (.int x1), some (.int x2), some (.int x3)] [] 0 0 m := by
  unfold f_X5_longestRise_67 at hf
  refine vv_iload_n 68 dX5_longestRise_67 rfl rfl ?_
  refine vv_iload_n 69 dX5_longestRise_68 rfl rfl ?_
  obtain ⟨q1, g_q1, hf⟩ := bind_s hf
  refine vv_callS 72 (st := []) (As := [.int x1, .int x2]) (stk2 := [.int q1]) (cl2 := 0) (sl2 := 0) dX5_longestRise_69 rfl lk_RX5_31 w_827 ⟨(Nat.le_of_ble_eq_true rfl), (Nat.le_of_ble_eq_true rfl)⟩ rfl rfl ⟨(Nat.le_of_ble_eq_true rfl), (Nat.le_of_ble_eq_true rfl)⟩ rfl (Nat.le_of_ble_eq_true rfl) rfl rfl rfl rfl (c_J9_max_7cf53 g_q1) ?_
  refine vv_istore_n 73 (L' := [some (.ref a0), some (.int q1), some (.int x2), some (.int x3)]) dX5_longestRise_72 rfl (Nat.le_of_ble_eq_true rfl) rfl ?_
  obtain ⟨z2, e_z2, hf⟩ := bd_s hf
  refine vv_iincE (q := 76) (v := z2) (c := 1) (L' := [some (.ref a0), some (.int q1), some (.int x2), some (.int z2)]) e_z2 dX5_longestRise_73 rfl rfl (by decide) (Nat.le_of_ble_eq_true rfl) rfl ?_
  refine vv_goto 6 dX5_longestRise_76 (by decide) ?_
  exact hk6 _ _ _ hf

set_option maxHeartbeats 4000000 in
theorem v_X5_longestRise_65 {w : Wo} {K : Kn} {a0 : Nat} {q : Int32} {m : Mem} (t_a0 : K a0 = some (.inl 4)) (k6 : Int32 → Int32 → Int32 → Option Int32) (hk6 : ∀ (x1 : Int32) (x2 : Int32) (x3 : Int32), k6 x1 x2 x3 = some q → VV w RX5 cX5_longestRise 4 (some .int) rm_X5_longestRise false (QM w K (some (.int q)) m 0 0) K 6 [some (.ref a0), some (.int x1), some (.int x2), some (.int x3)] [] 0 0 m) {x1 : Int32} {x3 : Int32} (hf : f_X5_longestRise_65 K m a0 k6 x1 x3 = some q) : VV w RX5 cX5_longestRise 4 (some .int) rm_X5_longestRise false (QM w K (some (.int q)) m 0 0) K 65 [some (.ref a0), some (.int x1), none, some (.int x3)] [] 0 0 m := by
  unfold f_X5_longestRise_65 at hf
  refine vv_iconst 66 (v := 1) dX5_longestRise_65 rfl (by decide) ?_
  refine vv_istore_n 67 (L' := [some (.ref a0), some (.int x1), some (.int (1 : Int32)), some (.int x3)]) dX5_longestRise_66 rfl (Nat.le_of_ble_eq_true rfl) rfl ?_
  exact v_X5_longestRise_67 t_a0 k6 hk6 hf

set_option maxHeartbeats 4000000 in
theorem v_X5_longestRise_6B {w : Wo} {K : Kn} {a0 : Nat} {q : Int32} {m : Mem} (t_a0 : K a0 = some (.inl 4)) (k6 : Int32 → Int32 → Int32 → Option Int32) (hk6 : ∀ (x1 : Int32) (x2 : Int32) (x3 : Int32), k6 x1 x2 x3 = some q → VV w RX5 cX5_longestRise 4 (some .int) rm_X5_longestRise false (QM w K (some (.int q)) m 0 0) K 6 [some (.ref a0), some (.int x1), some (.int x2), some (.int x3)] [] 0 0 m) {x1 : Int32} {x2 : Int32} {x3 : Int32} (hf : f_X5_longestRise_6B K m a0 k6 x1 x2 x3 = some q) : VV w RX5 cX5_longestRise 4 (some .int) rm_X5_longestRise false (QM w K (some (.int q)) m 0 0) K 6 [some (.ref a0), some (.int x1), some (.int x2), some (.int x3)] [] 0 0 m := by
  unfold f_X5_longestRise_6B at hf
  refine vv_iload_n 7 dX5_longestRise_6 rfl rfl ?_
  refine vv_aload_n 8 dX5_longestRise_7 rfl rfl ?_
  refine gf_RX5_19 11 dX5_longestRise_8 rfl t_a0 ?_
  refine vv_icmp_ge 79 14 dX5_longestRise_11 rfl (by decide) (fun c1 => ?_) (fun c1 => ?_)
  · rw [if_pos c1] at hf
    refine vv_iload_n 80 dX5_longestRise_79 rfl rfl ?_
    obtain rfl := Option.some.inj hf
    exact vv_iret dX5_longestRise_80 rfl
  · rw [if_neg c1] at hf
    refine vv_aload_n 15 dX5_longestRise_14 rfl rfl ?_
    obtain ⟨b2, g_b2, hf⟩ := bind_s hf
    have t_b2 := (ldA_spec g_b2).2
    refine gf_RX5_15 18 dX5_longestRise_15 rfl t_a0 (ldA_spec g_b2).1 ?_
    refine vv_iload_n 19 dX5_longestRise_18 rfl rfl ?_
    obtain ⟨r3, g_r3, hf⟩ := bind_s hf
    refine vv_lald 20 dX5_longestRise_19 rfl t_b2 g_r3 ?_
    obtain ⟨q4, g_q4, hf⟩ := bind_s hf
    refine vv_callS 23 (st := []) (As := [.long r3]) (stk2 := [.int q4]) (cl2 := 0) (sl2 := 0) dX5_longestRise_20 rfl lk_RX5_37 w_834 ⟨(Nat.le_of_ble_eq_true rfl), (Nat.le_of_ble_eq_true rfl)⟩ rfl rfl ⟨(Nat.le_of_ble_eq_true rfl), (Nat.le_of_ble_eq_true rfl)⟩ rfl (Nat.le_of_ble_eq_true rfl) rfl rfl rfl rfl (c_X3_isNumber g_q4) ?_
    refine vv_if_ne 31 26 dX5_longestRise_23 rfl (by decide) (fun c5 => ?_) (fun c5 => ?_)
    · rw [if_pos c5] at hf
      refine vv_iconst 27 (v := 0) dX5_longestRise_26 rfl (by decide) ?_
      refine vv_istore_n 28 (L' := [some (.ref a0), some (.int x1), some (.int (0 : Int32)), some (.int x3)]) dX5_longestRise_27 rfl (Nat.le_of_ble_eq_true rfl) rfl ?_
      refine vv_goto 67 dX5_longestRise_28 (by decide) ?_
      exact v_X5_longestRise_67 t_a0 k6 hk6 hf
    · rw [if_neg c5] at hf
      refine vv_iload_n 32 dX5_longestRise_31 rfl rfl ?_
      refine vv_if_le 65 35 dX5_longestRise_32 rfl (by decide) (fun c6 => ?_) (fun c6 => ?_)
      · rw [if_pos c6] at hf
        exact VV.lle (v_X5_longestRise_65 t_a0 k6 hk6 hf) (lle_s (lle_s (lle_n (lle_s lle_nil))))
      · rw [if_neg c6] at hf
        refine vv_aload_n 36 dX5_longestRise_35 rfl rfl ?_
        obtain ⟨b7, g_b7, hf⟩ := bind_s hf
        have t_b7 := (ldA_spec g_b7).2
        refine gf_RX5_15 39 dX5_longestRise_36 rfl t_a0 (ldA_spec g_b7).1 ?_
        refine vv_iload_n 40 dX5_longestRise_39 rfl rfl ?_
        obtain ⟨r8, g_r8, hf⟩ := bind_s hf
        refine vv_lald 41 dX5_longestRise_40 rfl t_b7 g_r8 ?_
        obtain ⟨q9, g_q9, hf⟩ := bind_s hf
        refine vv_callS 44 (st := []) (As := [.long r8]) (stk2 := [.long q9]) (cl2 := 0) (sl2 := 0) dX5_longestRise_41 rfl lk_RX5_43 w_839 ⟨(Nat.le_of_ble_eq_true rfl), (Nat.le_of_ble_eq_true rfl)⟩ rfl rfl ⟨(Nat.le_of_ble_eq_true rfl), (Nat.le_of_ble_eq_true rfl)⟩ rfl (Nat.le_of_ble_eq_true rfl) rfl rfl rfl rfl (c_X3_order g_q9) ?_
        refine vv_aload_n 45 dX5_longestRise_44 rfl rfl ?_
        obtain ⟨b10, g_b10, hf⟩ := bind_s hf
        have t_b10 := (ldA_spec g_b10).2
        refine gf_RX5_15 48 dX5_longestRise_45 rfl t_a0 (ldA_spec g_b10).1 ?_
        refine vv_iload_n 49 dX5_longestRise_48 rfl rfl ?_
        refine vv_iconst 50 (v := 1) dX5_longestRise_49 rfl (by decide) ?_
        refine vv_isub 51 dX5_longestRise_50 rfl ?_
        obtain ⟨r11, g_r11, hf⟩ := bind_s hf
        refine vv_lald 52 dX5_longestRise_51 rfl t_b10 g_r11 ?_
        obtain ⟨q12, g_q12, hf⟩ := bind_s hf
        refine vv_callS 55 (st := [.long q9]) (As := [.long r11]) (stk2 := [.long q12, .long q9]) (cl2 := 0) (sl2 := 0) dX5_longestRise_52 rfl lk_RX5_43 w_839 ⟨(Nat.le_of_ble_eq_true rfl), (Nat.le_of_ble_eq_true rfl)⟩ rfl rfl ⟨(Nat.le_of_ble_eq_true rfl), (Nat.le_of_ble_eq_true rfl)⟩ rfl (Nat.le_of_ble_eq_true rfl) rfl rfl rfl rfl (c_X3_order g_q12) ?_
        refine vv_lcmp 56 dX5_longestRise_55 rfl ?_
        refine vv_if_le 65 59 dX5_longestRise_56 rfl (by decide) (fun c13 => ?_) (fun c13 => ?_)
        · rw [if_pos c13] at hf
          exact VV.lle (v_X5_longestRise_65 t_a0 k6 hk6 hf) (lle_s (lle_s (lle_n (lle_s lle_nil))))
        · rw [if_neg c13] at hf
          obtain ⟨z14, e_z14, hf⟩ := bd_s hf
          refine vv_iincE (q := 62) (v := z14) (c := 1) (L' := [some (.ref a0), some (.int x1), some (.int z14), some (.int x3)]) e_z14 dX5_longestRise_59 rfl rfl (by decide) (Nat.le_of_ble_eq_true rfl) rfl ?_
          refine vv_goto 67 dX5_longestRise_62 (by decide) ?_
          exact v_X5_longestRise_67 t_a0 k6 hk6 hf

theorem v_X5_longestRise_6 {w : Wo} {K : Kn} {a0 : Nat} {q : Int32} {m : Mem} (t_a0 : K a0 = some (.inl 4)) : ∀ (n : Nat) (x1 : Int32) (x2 : Int32) (x3 : Int32), f_X5_longestRise_6 K m a0 n x1 x2 x3 = some q → VV w RX5 cX5_longestRise 4 (some .int) rm_X5_longestRise false (QM w K (some (.int q)) m 0 0) K 6 [some (.ref a0), some (.int x1), some (.int x2), some (.int x3)] [] 0 0 m := by
  intro n
  induction n with
  | zero => intro x1 x2 x3 hf; cases hf
  | succ n ih => intro x1 x2 x3 hf; exact v_X5_longestRise_6B (a0 := a0) t_a0 (f_X5_longestRise_6 K m a0 n) ih hf

set_option maxHeartbeats 4000000 in
theorem v_X5_longestRise_0 {w : Wo} {K : Kn} {a0 : Nat} {q : Int32} {m : Mem} (t_a0 : K a0 = some (.inl 4)) (hf : f_X5_longestRise K m a0 = some q) : VV w RX5 cX5_longestRise 4 (some .int) rm_X5_longestRise false (QM w K (some (.int q)) m 0 0) K 0 [some (.ref a0), none, none, none] [] 0 0 m := by
  unfold f_X5_longestRise at hf
  refine vv_iconst 1 (v := 0) dX5_longestRise_0 rfl (by decide) ?_
  refine vv_istore_n 2 (L' := [some (.ref a0), some (.int (0 : Int32)), none, none]) dX5_longestRise_1 rfl (Nat.le_of_ble_eq_true rfl) rfl ?_
  refine vv_iconst 3 (v := 0) dX5_longestRise_2 rfl (by decide) ?_
  refine vv_istore_n 4 (L' := [some (.ref a0), some (.int (0 : Int32)), some (.int (0 : Int32)), none]) dX5_longestRise_3 rfl (Nat.le_of_ble_eq_true rfl) rfl ?_
  refine vv_iconst 5 (v := 0) dX5_longestRise_4 rfl (by decide) ?_
  refine vv_istore_n 6 (L' := [some (.ref a0), some (.int (0 : Int32)), some (.int (0 : Int32)), some (.int (0 : Int32))]) dX5_longestRise_5 rfl (Nat.le_of_ble_eq_true rfl) rfl ?_
  exact v_X5_longestRise_6 t_a0 FU _ _ _ hf

theorem c_X5_longestRise {w : Wo} {K : Kn} {a0 : Nat} {q : Int32} {m : Mem} (t_a0 : K a0 = some (.inl 4)) (hf : F_X5_longestRise K m a0 = some q) : MM w K K yX5_longestRise cX5_longestRise 4 (some .int) rm_X5_longestRise [.ref a0] m (some (.int q)) m 0 0 :=
  mm_of (ini := false) (n := 3) (plainFor_of_name (by decide)) rfl (fun h => by first | rfl | cases h) (Nat.le_of_ble_eq_true rfl) rfl (v_X5_longestRise_0 t_a0 hf)

set_option maxHeartbeats 4000000 in
theorem v_X8_row_0 {w : Wo} {K : Kn} {a0 : Nat} {x1 : Int32} {x2 : Int32} {q : (Int32 × Mem)} (t_a0 : K a0 = some (.inl 7)) {m : Mem} (hf : f_X8_row K a0 x1 x2 m = some q) : VV w RX8 cX8_row 4 (some .int) rm_X8_row false (QM w K (some (.int q.1)) q.2 0 0) K 0 [some (.ref a0), some (.int x1), some (.int x2), none] [] 0 0 m := by
  unfold f_X8_row at hf
  refine vv_aload_n 1 dX8_row_0 rfl rfl ?_
  refine vv_iload_n 2 dX8_row_1 rfl rfl ?_
  obtain ⟨q1, g_q1, hf⟩ := bind_s hf
  refine vv_callV 5 (st := []) (As := [.int x1]) (stk2 := [.int q1]) (cl2 := 0) (sl2 := 0) dX8_row_2 rfl lk_RX8_81 w_469 w_0 rfl t_a0 ⟨(Nat.le_of_ble_eq_true rfl), (Nat.le_of_ble_eq_true rfl)⟩ rfl rfl ⟨(Nat.le_of_ble_eq_true rfl), (Nat.le_of_ble_eq_true rfl)⟩ rfl (Nat.le_of_ble_eq_true rfl) rfl rfl rfl rfl (c_X8_isNone t_a0 g_q1) ?_
  refine vv_if_ne 17 8 dX8_row_5 rfl (by decide) (fun c2 => ?_) (fun c2 => ?_)
  · rw [if_pos c2] at hf
    refine vv_iload_n 9 dX8_row_8 rfl rfl ?_
    refine vv_if_lt 17 12 dX8_row_9 rfl (by decide) (fun c3 => ?_) (fun c3 => ?_)
    · rw [if_pos c3] at hf
      refine vv_bipush 19 (v := (-2)) dX8_row_17 rfl (by decide) ?_
      obtain rfl := Option.some.inj hf
      exact vv_iret dX8_row_19 rfl
    · rw [if_neg c3] at hf
      refine vv_iload_n 13 dX8_row_12 rfl rfl ?_
      refine vv_iconst 14 (v := 1) dX8_row_13 rfl (by decide) ?_
      refine vv_icmp_le 20 17 dX8_row_14 rfl (by decide) (fun c4 => ?_) (fun c4 => ?_)
      · rw [if_pos c4] at hf
        refine vv_aload_n 21 dX8_row_20 rfl rfl ?_
        refine vv_iload_n 22 dX8_row_21 rfl rfl ?_
        obtain ⟨q5, g_q5, hf⟩ := bind_s hf
        refine vv_callV 25 (st := []) (As := [.int x1]) (stk2 := [.ref q5.1]) (cl2 := 0) (sl2 := 0) dX8_row_22 rfl lk_RX8_176 w_694 w_11 rfl t_a0 ⟨(Nat.le_of_ble_eq_true rfl), (Nat.le_of_ble_eq_true rfl)⟩ rfl rfl ⟨(Nat.le_of_ble_eq_true rfl), (Nat.le_of_ble_eq_true rfl)⟩ rfl (Nat.le_of_ble_eq_true rfl) rfl rfl rfl rfl (c_X8_gathered t_a0 g_q5) ?_
        obtain ⟨t_6, hf⟩ := gd_s hf
        refine vv_astore_n 26 (L' := [some (.ref a0), some (.int x1), some (.int x2), some (.ref q5.1)]) dX8_row_25 rfl (Nat.le_of_ble_eq_true rfl) rfl ?_
        refine vv_iload_n 27 dX8_row_26 rfl rfl ?_
        refine vv_if_ne 37 30 dX8_row_27 rfl (by decide) (fun c7 => ?_) (fun c7 => ?_)
        · rw [if_pos c7] at hf
          refine vv_aload_n 31 dX8_row_30 rfl rfl ?_
          obtain ⟨q8, g_q8, hf⟩ := bind_s hf
          refine vv_callV 34 (st := []) (As := []) (stk2 := [.int q8]) (cl2 := 0) (sl2 := 0) dX8_row_31 rfl lk_RX8_257 w_823 w_824 rfl t_6 ⟨(Nat.le_of_ble_eq_true rfl), (Nat.le_of_ble_eq_true rfl)⟩ rfl rfl ⟨(Nat.le_of_ble_eq_true rfl), (Nat.le_of_ble_eq_true rfl)⟩ rfl (Nat.le_of_ble_eq_true rfl) rfl rfl rfl rfl (c_X5_longestSame t_6 g_q8) ?_
          refine vv_goto 41 dX8_row_34 (by decide) ?_
          obtain rfl := Option.some.inj hf
          exact vv_iret dX8_row_41 rfl
        · rw [if_neg c7] at hf
          refine vv_aload_n 38 dX8_row_37 rfl rfl ?_
          obtain ⟨q9, g_q9, hf⟩ := bind_s hf
          refine vv_callV 41 (st := []) (As := []) (stk2 := [.int q9]) (cl2 := 0) (sl2 := 0) dX8_row_38 rfl lk_RX8_260 w_830 w_831 rfl t_6 ⟨(Nat.le_of_ble_eq_true rfl), (Nat.le_of_ble_eq_true rfl)⟩ rfl rfl ⟨(Nat.le_of_ble_eq_true rfl), (Nat.le_of_ble_eq_true rfl)⟩ rfl (Nat.le_of_ble_eq_true rfl) rfl rfl rfl rfl (c_X5_longestRise t_6 g_q9) ?_
          obtain rfl := Option.some.inj hf
          exact vv_iret dX8_row_41 rfl
      · rw [if_neg c4] at hf
        refine vv_bipush 19 (v := (-2)) dX8_row_17 rfl (by decide) ?_
        obtain rfl := Option.some.inj hf
        exact vv_iret dX8_row_19 rfl
  · rw [if_neg c2] at hf
    refine vv_bipush 19 (v := (-2)) dX8_row_17 rfl (by decide) ?_
    obtain rfl := Option.some.inj hf
    exact vv_iret dX8_row_19 rfl

theorem c_X8_row {w : Wo} {K : Kn} {a0 : Nat} {x1 : Int32} {x2 : Int32} {q : (Int32 × Mem)} {m : Mem} (t_a0 : K a0 = some (.inl 7)) (hf : F_X8_row K m a0 x1 x2 = some q) : MM w K K yX8_row cX8_row 4 (some .int) rm_X8_row [.ref a0, .int x1, .int x2] m (some (.int q.1)) q.2 0 0 :=
  mm_of (ini := false) (n := 1) (plainFor_of_name (by decide)) rfl (fun h => by first | rfl | cases h) (Nat.le_of_ble_eq_true rfl) rfl (v_X8_row_0 t_a0 hf)

set_option maxHeartbeats 4000000 in
theorem v_X8_gatherBoth_0 {w : Wo} {K : Kn} {a0 : Nat} {x1 : Int32} {x2 : Int32} {q : Mem} (t_a0 : K a0 = some (.inl 7)) {m : Mem} (hf : f_X8_gatherBoth K a0 x1 x2 m = some q) : VV w RX8 cX8_gatherBoth 3 none rm_X8_gatherBoth false (QM w K none q 0 0) K 0 [some (.ref a0), some (.int x1), some (.int x2)] [] 0 0 m := by
  unfold f_X8_gatherBoth at hf
  refine vv_aload_n 1 dX8_gatherBoth_0 rfl rfl ?_
  obtain ⟨b1, g_b1, hf⟩ := bind_s hf
  have t_b1 := (ldA_spec g_b1).2
  refine gf_RX8_11 4 dX8_gatherBoth_1 rfl t_a0 (ldA_spec g_b1).1 ?_
  refine vv_iload_n 5 dX8_gatherBoth_4 rfl rfl ?_
  obtain ⟨b2, g_b2, hf⟩ := bind_s hf
  have t_b2 := (alO_spec g_b2).2
  refine vv_aald3 6 dX8_gatherBoth_5 rfl t_b1 g_b2 ?_
  refine vv_iconst 7 (v := 0) dX8_gatherBoth_6 rfl (by decide) ?_
  refine vv_ldcw 10 (v := 2000000000) dX8_gatherBoth_7 rfl w_474 ?_
  refine vv_aload_n 11 dX8_gatherBoth_10 rfl rfl ?_
  obtain ⟨b3, g_b3, hf⟩ := bind_s hf
  have t_b3 := (ldO_spec g_b3).2
  refine gf_RX8_44 14 dX8_gatherBoth_11 rfl t_a0 (ldO_spec g_b3).1 ?_
  refine vv_aload_n 15 dX8_gatherBoth_14 rfl rfl ?_
  obtain ⟨b4, g_b4, hf⟩ := bind_s hf
  have t_b4 := (ldO_spec g_b4).2
  refine gf_RX8_25 18 dX8_gatherBoth_15 rfl t_a0 (ldO_spec g_b4).1 ?_
  obtain ⟨q5, g_q5, hf⟩ := bind_s hf
  refine vv_callV 21 (st := []) (As := [.int (0 : Int32), .int (2000000000 : Int32), .ref b3, .ref b4]) (stk2 := []) (cl2 := 0) (sl2 := 0) dX8_gatherBoth_18 rfl lk_RX8_228 w_697 w_698 rfl t_b2 ⟨(Nat.le_of_ble_eq_true rfl), (Nat.le_of_ble_eq_true rfl)⟩ rfl rfl ⟨(Nat.le_of_ble_eq_true rfl), (Nat.le_of_ble_eq_true rfl)⟩ rfl (Nat.le_of_ble_eq_true rfl) rfl rfl rfl rfl (c_X7_gather t_b2 t_b3 t_b4 g_q5) ?_
  refine vv_aload_n 22 dX8_gatherBoth_21 rfl rfl ?_
  obtain ⟨b6, g_b6, hf⟩ := bind_s hf
  have t_b6 := (ldA_spec g_b6).2
  refine gf_RX8_11 25 dX8_gatherBoth_22 rfl t_a0 (ldA_spec g_b6).1 ?_
  refine vv_iload_n 26 dX8_gatherBoth_25 rfl rfl ?_
  obtain ⟨b7, g_b7, hf⟩ := bind_s hf
  have t_b7 := (alO_spec g_b7).2
  refine vv_aald3 27 dX8_gatherBoth_26 rfl t_b6 g_b7 ?_
  refine vv_iconst 28 (v := 0) dX8_gatherBoth_27 rfl (by decide) ?_
  refine vv_ldcw 31 (v := 2000000000) dX8_gatherBoth_28 rfl w_474 ?_
  refine vv_aload_n 32 dX8_gatherBoth_31 rfl rfl ?_
  obtain ⟨b8, g_b8, hf⟩ := bind_s hf
  have t_b8 := (ldO_spec g_b8).2
  refine gf_RX8_44 35 dX8_gatherBoth_32 rfl t_a0 (ldO_spec g_b8).1 ?_
  refine vv_aload_n 36 dX8_gatherBoth_35 rfl rfl ?_
  obtain ⟨b9, g_b9, hf⟩ := bind_s hf
  have t_b9 := (ldO_spec g_b9).2
  refine gf_RX8_29 39 dX8_gatherBoth_36 rfl t_a0 (ldO_spec g_b9).1 ?_
  obtain ⟨q10, g_q10, hf⟩ := bind_s hf
  refine vv_callV 42 (st := []) (As := [.int (0 : Int32), .int (2000000000 : Int32), .ref b8, .ref b9]) (stk2 := []) (cl2 := 0) (sl2 := 0) dX8_gatherBoth_39 rfl lk_RX8_228 w_697 w_698 rfl t_b7 ⟨(Nat.le_of_ble_eq_true rfl), (Nat.le_of_ble_eq_true rfl)⟩ rfl rfl ⟨(Nat.le_of_ble_eq_true rfl), (Nat.le_of_ble_eq_true rfl)⟩ rfl (Nat.le_of_ble_eq_true rfl) rfl rfl rfl rfl (c_X7_gather t_b7 t_b8 t_b9 g_q10) ?_
  obtain rfl := Option.some.inj hf
  exact vv_vret dX8_gatherBoth_42 rfl

theorem c_X8_gatherBoth {w : Wo} {K : Kn} {a0 : Nat} {x1 : Int32} {x2 : Int32} {q : Mem} {m : Mem} (t_a0 : K a0 = some (.inl 7)) (hf : F_X8_gatherBoth K m a0 x1 x2 = some q) : MM w K K yX8_gatherBoth cX8_gatherBoth 3 none rm_X8_gatherBoth [.ref a0, .int x1, .int x2] m none q 0 0 :=
  mm_of (ini := false) (n := 0) (plainFor_of_name (by decide)) rfl (fun h => by first | rfl | cases h) (Nat.le_of_ble_eq_true rfl) rfl (v_X8_gatherBoth_0 t_a0 hf)

set_option maxHeartbeats 4000000 in
theorem v_X4_begin_0 {w : Wo} {K : Kn} {a0 : Nat} {q : (Int32 × Mem)} (t_a0 : K a0 = some (.inl 3)) {m : Mem} (hf : f_X4_begin K a0 m = some q) : VV w RX4 cX4_begin 1 (some .int) rm_X4_begin false (QM w K (some (.int q.1)) q.2 0 0) K 0 [some (.ref a0)] [] 0 0 m := by
  unfold f_X4_begin at hf
  refine vv_aload_n 1 dX4_begin_0 rfl rfl ?_
  refine vv_iconst 2 (v := 0) dX4_begin_1 rfl (by decide) ?_
  obtain ⟨m1, e_m1, hf⟩ := bd_s hf
  refine pf_RX4_16 5 dX4_begin_2 rfl t_a0 e_m1 ?_
  refine vv_aload_n 6 dX4_begin_5 rfl rfl ?_
  refine vv_iconst 7 (v := 0) dX4_begin_6 rfl (by decide) ?_
  obtain ⟨m2, e_m2, hf⟩ := bd_s hf
  refine pf_RX4_20 10 dX4_begin_7 rfl t_a0 e_m2 ?_
  refine vv_aload_n 11 dX4_begin_10 rfl rfl ?_
  obtain ⟨b3, g_b3, hf⟩ := bind_s hf
  have t_b3 := (ldO_spec g_b3).2
  refine gf_RX4_7 14 dX4_begin_11 rfl t_a0 (ldO_spec g_b3).1 ?_
  refine gf_RX4_23 17 dX4_begin_14 rfl t_b3 ?_
  refine vv_aload_n 18 dX4_begin_17 rfl rfl ?_
  obtain ⟨b4, g_b4, hf⟩ := bind_s hf
  have t_b4 := (ldO_spec g_b4).2
  refine gf_RX4_13 21 dX4_begin_18 rfl t_a0 (ldO_spec g_b4).1 ?_
  refine gf_RX4_23 24 dX4_begin_21 rfl t_b4 ?_
  refine vv_iadd 25 dX4_begin_24 rfl ?_
  obtain rfl := Option.some.inj hf
  exact vv_iret dX4_begin_25 rfl

theorem c_X4_begin {w : Wo} {K : Kn} {a0 : Nat} {q : (Int32 × Mem)} {m : Mem} (t_a0 : K a0 = some (.inl 3)) (hf : F_X4_begin K m a0 = some q) : MM w K K yX4_begin cX4_begin 1 (some .int) rm_X4_begin [.ref a0] m (some (.int q.1)) q.2 0 0 :=
  mm_of (ini := false) (n := 0) (plainFor_of_name (by decide)) rfl (fun h => by first | rfl | cases h) (Nat.le_of_ble_eq_true rfl) rfl (v_X4_begin_0 t_a0 hf)

set_option maxHeartbeats 4000000 in
theorem v_X4_advance_303 {w : Wo} {K : Kn} {a0 : Nat} {q : (Int32 × Mem)} (t_a0 : K a0 = some (.inl 3)) {m : Mem} {sa0 : Nat} {s1 : Int32} {s2 : Int32} (t_sa0 : K sa0 = some (.inl 3)) (hf : f_X4_advance_303 K a0 m sa0 s1 s2 = some q) : VV w RX4 cX4_advance 3 (some .boolean) rm_X4_advance false (QM w K (some (.int q.1)) q.2 0 0) K 303 [none, none, none] [.int s2, .int s1, .ref sa0] 0 0 m := by
  unfold f_X4_advance_303 at hf
  refine vv_iadd 304 dX4_advance_303 rfl ?_
  obtain ⟨m1, e_m1, hf⟩ := bd_s hf
  refine pf_RX4_20 307 dX4_advance_304 rfl t_sa0 e_m1 ?_
  refine vv_iconst 308 (v := 1) dX4_advance_307 rfl (by decide) ?_
  obtain rfl := Option.some.inj hf
  exact vv_zret dX4_advance_308 rfl (Or.inr rfl)

set_option maxHeartbeats 4000000 in
theorem v_X4_advance_282 {w : Wo} {K : Kn} {a0 : Nat} {q : (Int32 × Mem)} (t_a0 : K a0 = some (.inl 3)) {m : Mem} {sa0 : Nat} {s1 : Int32} {s2 : Int32} (t_sa0 : K sa0 = some (.inl 3)) (hf : f_X4_advance_282 K a0 m sa0 s1 s2 = some q) : VV w RX4 cX4_advance 3 (some .boolean) rm_X4_advance false (QM w K (some (.int q.1)) q.2 0 0) K 282 [some (.ref a0), none, none] [.int s2, .int s1, .ref sa0] 0 0 m := by
  unfold f_X4_advance_282 at hf
  refine vv_iadd 283 dX4_advance_282 rfl ?_
  obtain ⟨m1, e_m1, hf⟩ := bd_s hf
  refine pf_RX4_16 286 dX4_advance_283 rfl t_sa0 e_m1 ?_
  refine vv_aload_n 287 dX4_advance_286 rfl rfl ?_
  refine vv_dup 288 dX4_advance_287 rfl rfl ?_
  refine gf_RX4_20 291 dX4_advance_288 rfl t_a0 ?_
  refine vv_aload_n 292 dX4_advance_291 rfl rfl ?_
  refine gf_RX4_36 295 dX4_advance_292 rfl t_a0 ?_
  refine vv_if_eq 302 298 dX4_advance_295 rfl (by decide) (fun c2 => ?_) (fun c2 => ?_)
  · rw [if_pos c2] at hf
    refine vv_iconst 303 (v := 0) dX4_advance_302 rfl (by decide) ?_
    exact VV.lle (v_X4_advance_303 t_a0 t_a0 hf) (lle_n (lle_s (lle_s lle_nil)))
  · rw [if_neg c2] at hf
    refine vv_iconst 299 (v := 1) dX4_advance_298 rfl (by decide) ?_
    refine vv_goto 303 dX4_advance_299 (by decide) ?_
    exact VV.lle (v_X4_advance_303 t_a0 t_a0 hf) (lle_n (lle_s (lle_s lle_nil)))

set_option maxHeartbeats 4000000 in
theorem v_X4_advance_262 {w : Wo} {K : Kn} {a0 : Nat} {q : (Int32 × Mem)} (t_a0 : K a0 = some (.inl 3)) {m : Mem} {sa0 : Nat} {s1 : Int64} (t_sa0 : K sa0 = some (.inl 3)) (hf : f_X4_advance_262 K a0 m sa0 s1 = some q) : VV w RX4 cX4_advance 3 (some .boolean) rm_X4_advance false (QM w K (some (.int q.1)) q.2 0 0) K 262 [some (.ref a0), none, none] [.long s1, .ref sa0] 0 0 m := by
  unfold f_X4_advance_262 at hf
  obtain ⟨m1, e_m1, hf⟩ := bd_s hf
  refine pf_RX4_49 265 dX4_advance_262 rfl t_sa0 e_m1 ?_
  refine vv_aload_n 266 dX4_advance_265 rfl rfl ?_
  refine vv_dup 267 dX4_advance_266 rfl rfl ?_
  refine gf_RX4_16 270 dX4_advance_267 rfl t_a0 ?_
  refine vv_aload_n 271 dX4_advance_270 rfl rfl ?_
  refine gf_RX4_32 274 dX4_advance_271 rfl t_a0 ?_
  refine vv_if_eq 281 277 dX4_advance_274 rfl (by decide) (fun c2 => ?_) (fun c2 => ?_)
  · rw [if_pos c2] at hf
    refine vv_iconst 282 (v := 0) dX4_advance_281 rfl (by decide) ?_
    exact v_X4_advance_282 t_a0 t_a0 hf
  · rw [if_neg c2] at hf
    refine vv_iconst 278 (v := 1) dX4_advance_277 rfl (by decide) ?_
    refine vv_goto 282 dX4_advance_278 (by decide) ?_
    exact v_X4_advance_282 t_a0 t_a0 hf

set_option maxHeartbeats 4000000 in
theorem v_X4_advance_224 {w : Wo} {K : Kn} {a0 : Nat} {q : (Int32 × Mem)} (t_a0 : K a0 = some (.inl 3)) {m : Mem} {sa0 : Nat} {s1 : Int32} (t_sa0 : K sa0 = some (.inl 3)) (hf : f_X4_advance_224 K a0 m sa0 s1 = some q) : VV w RX4 cX4_advance 3 (some .boolean) rm_X4_advance false (QM w K (some (.int q.1)) q.2 0 0) K 224 [some (.ref a0), none, none] [.int s1, .ref sa0] 0 0 m := by
  unfold f_X4_advance_224 at hf
  obtain ⟨m1, e_m1, hf⟩ := bd_s hf
  refine pf_RX4_46 227 dX4_advance_224 rfl t_sa0 e_m1 ?_
  refine vv_aload_n 228 dX4_advance_227 rfl rfl ?_
  refine vv_aload_n 229 dX4_advance_228 rfl rfl ?_
  refine gf_RX4_32 232 dX4_advance_229 rfl t_a0 ?_
  refine vv_if_eq 250 235 dX4_advance_232 rfl (by decide) (fun c2 => ?_) (fun c2 => ?_)
  · rw [if_pos c2] at hf
    refine vv_aload_n 251 dX4_advance_250 rfl rfl ?_
    obtain ⟨b3, g_b3, hf⟩ := bind_s hf
    have t_b3 := (ldO_spec g_b3).2
    refine gf_RX4_13 254 dX4_advance_251 rfl t_a0 (ldO_spec g_b3).1 ?_
    obtain ⟨b4, g_b4, hf⟩ := bind_s hf
    have t_b4 := (ldA_spec g_b4).2
    refine gf_RX4_39 257 dX4_advance_254 rfl t_b3 (ldA_spec g_b4).1 ?_
    refine vv_aload_n 258 dX4_advance_257 rfl rfl ?_
    refine gf_RX4_20 261 dX4_advance_258 rfl t_a0 ?_
    obtain ⟨r5, g_r5, hf⟩ := bind_s hf
    refine vv_lald 262 dX4_advance_261 rfl t_b4 g_r5 ?_
    exact v_X4_advance_262 t_a0 t_a0 hf
  · rw [if_neg c2] at hf
    refine vv_aload_n 236 dX4_advance_235 rfl rfl ?_
    obtain ⟨b6, g_b6, hf⟩ := bind_s hf
    have t_b6 := (ldO_spec g_b6).2
    refine gf_RX4_7 239 dX4_advance_236 rfl t_a0 (ldO_spec g_b6).1 ?_
    obtain ⟨b7, g_b7, hf⟩ := bind_s hf
    have t_b7 := (ldA_spec g_b7).2
    refine gf_RX4_39 242 dX4_advance_239 rfl t_b6 (ldA_spec g_b7).1 ?_
    refine vv_aload_n 243 dX4_advance_242 rfl rfl ?_
    refine gf_RX4_16 246 dX4_advance_243 rfl t_a0 ?_
    obtain ⟨r8, g_r8, hf⟩ := bind_s hf
    refine vv_lald 247 dX4_advance_246 rfl t_b7 g_r8 ?_
    refine vv_goto 262 dX4_advance_247 (by decide) ?_
    exact v_X4_advance_262 t_a0 t_a0 hf

set_option maxHeartbeats 4000000 in
theorem v_X4_advance_186 {w : Wo} {K : Kn} {a0 : Nat} {q : (Int32 × Mem)} (t_a0 : K a0 = some (.inl 3)) {m : Mem} {sa0 : Nat} {s1 : Int32} (t_sa0 : K sa0 = some (.inl 3)) (hf : f_X4_advance_186 K a0 m sa0 s1 = some q) : VV w RX4 cX4_advance 3 (some .boolean) rm_X4_advance false (QM w K (some (.int q.1)) q.2 0 0) K 186 [some (.ref a0), none, none] [.int s1, .ref sa0] 0 0 m := by
  unfold f_X4_advance_186 at hf
  obtain ⟨h1, hf⟩ := gd_s hf
  obtain ⟨m2, e_m2, hf⟩ := bd_s hf
  refine pf_RX4_43 189 dX4_advance_186 rfl t_sa0 h1 e_m2 ?_
  refine vv_aload_n 190 dX4_advance_189 rfl rfl ?_
  refine vv_aload_n 191 dX4_advance_190 rfl rfl ?_
  refine gf_RX4_32 194 dX4_advance_191 rfl t_a0 ?_
  refine vv_if_eq 212 197 dX4_advance_194 rfl (by decide) (fun c3 => ?_) (fun c3 => ?_)
  · rw [if_pos c3] at hf
    refine vv_aload_n 213 dX4_advance_212 rfl rfl ?_
    obtain ⟨b4, g_b4, hf⟩ := bind_s hf
    have t_b4 := (ldO_spec g_b4).2
    refine gf_RX4_13 216 dX4_advance_213 rfl t_a0 (ldO_spec g_b4).1 ?_
    obtain ⟨b5, g_b5, hf⟩ := bind_s hf
    have t_b5 := (ldA_spec g_b5).2
    refine gf_RX4_28 219 dX4_advance_216 rfl t_b4 (ldA_spec g_b5).1 ?_
    refine vv_aload_n 220 dX4_advance_219 rfl rfl ?_
    refine gf_RX4_20 223 dX4_advance_220 rfl t_a0 ?_
    obtain ⟨r6, g_r6, hf⟩ := bind_s hf
    refine vv_iald 224 dX4_advance_223 rfl t_b5 g_r6 ?_
    exact v_X4_advance_224 t_a0 t_a0 hf
  · rw [if_neg c3] at hf
    refine vv_aload_n 198 dX4_advance_197 rfl rfl ?_
    obtain ⟨b7, g_b7, hf⟩ := bind_s hf
    have t_b7 := (ldO_spec g_b7).2
    refine gf_RX4_7 201 dX4_advance_198 rfl t_a0 (ldO_spec g_b7).1 ?_
    obtain ⟨b8, g_b8, hf⟩ := bind_s hf
    have t_b8 := (ldA_spec g_b8).2
    refine gf_RX4_28 204 dX4_advance_201 rfl t_b7 (ldA_spec g_b8).1 ?_
    refine vv_aload_n 205 dX4_advance_204 rfl rfl ?_
    refine gf_RX4_16 208 dX4_advance_205 rfl t_a0 ?_
    obtain ⟨r9, g_r9, hf⟩ := bind_s hf
    refine vv_iald 209 dX4_advance_208 rfl t_b8 g_r9 ?_
    refine vv_goto 224 dX4_advance_209 (by decide) ?_
    exact v_X4_advance_224 t_a0 t_a0 hf

set_option maxHeartbeats 4000000 in
theorem v_X4_advance_185 {w : Wo} {K : Kn} {a0 : Nat} {q : (Int32 × Mem)} (t_a0 : K a0 = some (.inl 3)) {m : Mem} {sa0 : Nat} (t_sa0 : K sa0 = some (.inl 3)) (hf : f_X4_advance_185 K a0 m sa0 = some q) : VV w RX4 cX4_advance 3 (some .boolean) rm_X4_advance false (QM w K (some (.int q.1)) q.2 0 0) K 185 [some (.ref a0), none, none] [.ref sa0] 0 0 m := by
  unfold f_X4_advance_185 at hf
  refine vv_iconst 186 (v := 0) dX4_advance_185 rfl (by decide) ?_
  exact v_X4_advance_186 t_a0 t_sa0 hf

set_option maxHeartbeats 4000000 in
theorem v_X4_advance_135 {w : Wo} {K : Kn} {a0 : Nat} {q : (Int32 × Mem)} (t_a0 : K a0 = some (.inl 3)) {m : Mem} {sa0 : Nat} {s1 : Int32} (t_sa0 : K sa0 = some (.inl 3)) (hf : f_X4_advance_135 K a0 m sa0 s1 = some q) : VV w RX4 cX4_advance 3 (some .boolean) rm_X4_advance false (QM w K (some (.int q.1)) q.2 0 0) K 135 [some (.ref a0), none, none] [.int s1, .ref sa0] 0 0 m := by
  unfold f_X4_advance_135 at hf
  obtain ⟨h1, hf⟩ := gd_s hf
  obtain ⟨m2, e_m2, hf⟩ := bd_s hf
  refine pf_RX4_36 138 dX4_advance_135 rfl t_sa0 h1 e_m2 ?_
  refine vv_aload_n 139 dX4_advance_138 rfl rfl ?_
  refine vv_aload_n 140 dX4_advance_139 rfl rfl ?_
  refine gf_RX4_32 143 dX4_advance_140 rfl t_a0 ?_
  refine vv_if_eq 185 146 dX4_advance_143 rfl (by decide) (fun c3 => ?_) (fun c3 => ?_)
  · rw [if_pos c3] at hf
    exact v_X4_advance_185 t_a0 t_a0 hf
  · rw [if_neg c3] at hf
    refine vv_aload_n 147 dX4_advance_146 rfl rfl ?_
    refine gf_RX4_36 150 dX4_advance_147 rfl t_a0 ?_
    refine vv_if_eq 185 153 dX4_advance_150 rfl (by decide) (fun c4 => ?_) (fun c4 => ?_)
    · rw [if_pos c4] at hf
      exact v_X4_advance_185 t_a0 t_a0 hf
    · rw [if_neg c4] at hf
      refine vv_aload_n 154 dX4_advance_153 rfl rfl ?_
      obtain ⟨b5, g_b5, hf⟩ := bind_s hf
      have t_b5 := (ldO_spec g_b5).2
      refine gf_RX4_7 157 dX4_advance_154 rfl t_a0 (ldO_spec g_b5).1 ?_
      obtain ⟨b6, g_b6, hf⟩ := bind_s hf
      have t_b6 := (ldA_spec g_b6).2
      refine gf_RX4_39 160 dX4_advance_157 rfl t_b5 (ldA_spec g_b6).1 ?_
      refine vv_aload_n 161 dX4_advance_160 rfl rfl ?_
      refine gf_RX4_16 164 dX4_advance_161 rfl t_a0 ?_
      obtain ⟨r7, g_r7, hf⟩ := bind_s hf
      refine vv_lald 165 dX4_advance_164 rfl t_b6 g_r7 ?_
      refine vv_aload_n 166 dX4_advance_165 rfl rfl ?_
      obtain ⟨b8, g_b8, hf⟩ := bind_s hf
      have t_b8 := (ldO_spec g_b8).2
      refine gf_RX4_13 169 dX4_advance_166 rfl t_a0 (ldO_spec g_b8).1 ?_
      obtain ⟨b9, g_b9, hf⟩ := bind_s hf
      have t_b9 := (ldA_spec g_b9).2
      refine gf_RX4_39 172 dX4_advance_169 rfl t_b8 (ldA_spec g_b9).1 ?_
      refine vv_aload_n 173 dX4_advance_172 rfl rfl ?_
      refine gf_RX4_20 176 dX4_advance_173 rfl t_a0 ?_
      obtain ⟨r10, g_r10, hf⟩ := bind_s hf
      refine vv_lald 177 dX4_advance_176 rfl t_b9 g_r10 ?_
      refine vv_lcmp 178 dX4_advance_177 rfl ?_
      refine vv_if_ne 185 181 dX4_advance_178 rfl (by decide) (fun c11 => ?_) (fun c11 => ?_)
      · rw [if_pos c11] at hf
        refine vv_iconst 182 (v := 1) dX4_advance_181 rfl (by decide) ?_
        refine vv_goto 186 dX4_advance_182 (by decide) ?_
        exact v_X4_advance_186 t_a0 t_a0 hf
      · rw [if_neg c11] at hf
        exact v_X4_advance_185 t_a0 t_a0 hf

set_option maxHeartbeats 4000000 in
theorem v_X4_advance_130 {w : Wo} {K : Kn} {a0 : Nat} {q : (Int32 × Mem)} (t_a0 : K a0 = some (.inl 3)) {m : Mem} {sa0 : Nat} (t_sa0 : K sa0 = some (.inl 3)) (hf : f_X4_advance_130 K a0 m sa0 = some q) : VV w RX4 cX4_advance 3 (some .boolean) rm_X4_advance false (QM w K (some (.int q.1)) q.2 0 0) K 130 [some (.ref a0), none, none] [.ref sa0] 0 0 m := by
  unfold f_X4_advance_130 at hf
  refine vv_iconst 131 (v := 1) dX4_advance_130 rfl (by decide) ?_
  refine vv_goto 135 dX4_advance_131 (by decide) ?_
  exact v_X4_advance_135 t_a0 t_sa0 hf

set_option maxHeartbeats 4000000 in
theorem v_X4_advance_134 {w : Wo} {K : Kn} {a0 : Nat} {q : (Int32 × Mem)} (t_a0 : K a0 = some (.inl 3)) {m : Mem} {sa0 : Nat} (t_sa0 : K sa0 = some (.inl 3)) (hf : f_X4_advance_134 K a0 m sa0 = some q) : VV w RX4 cX4_advance 3 (some .boolean) rm_X4_advance false (QM w K (some (.int q.1)) q.2 0 0) K 134 [some (.ref a0), none, none] [.ref sa0] 0 0 m := by
  unfold f_X4_advance_134 at hf
  refine vv_iconst 135 (v := 0) dX4_advance_134 rfl (by decide) ?_
  exact v_X4_advance_135 t_a0 t_sa0 hf

set_option maxHeartbeats 4000000 in
theorem v_X4_advance_91 {w : Wo} {K : Kn} {a0 : Nat} {q : (Int32 × Mem)} (t_a0 : K a0 = some (.inl 3)) {m : Mem} {x1 : Int32} {x2 : Int32} {sa0 : Nat} {s1 : Int32} (t_sa0 : K sa0 = some (.inl 3)) (hf : f_X4_advance_91 K a0 m x1 x2 sa0 s1 = some q) : VV w RX4 cX4_advance 3 (some .boolean) rm_X4_advance false (QM w K (some (.int q.1)) q.2 0 0) K 91 [some (.ref a0), some (.int x1), some (.int x2)] [.int s1, .ref sa0] 0 0 m := by
  unfold f_X4_advance_91 at hf
  obtain ⟨h1, hf⟩ := gd_s hf
  obtain ⟨m2, e_m2, hf⟩ := bd_s hf
  refine pf_RX4_32 94 dX4_advance_91 rfl t_sa0 h1 e_m2 ?_
  refine vv_aload_n 95 dX4_advance_94 rfl rfl ?_
  refine vv_iload_n 96 dX4_advance_95 rfl rfl ?_
  refine vv_if_eq 134 99 dX4_advance_96 rfl (by decide) (fun c3 => ?_) (fun c3 => ?_)
  · rw [if_pos c3] at hf
    exact VV.lle (v_X4_advance_134 t_a0 t_a0 hf) (lle_s (lle_n (lle_n lle_nil)))
  · rw [if_neg c3] at hf
    refine vv_iload_n 100 dX4_advance_99 rfl rfl ?_
    refine vv_if_eq 130 103 dX4_advance_100 rfl (by decide) (fun c4 => ?_) (fun c4 => ?_)
    · rw [if_pos c4] at hf
      exact VV.lle (v_X4_advance_130 t_a0 t_a0 hf) (lle_s (lle_n (lle_n lle_nil)))
    · rw [if_neg c4] at hf
      refine vv_aload_n 104 dX4_advance_103 rfl rfl ?_
      obtain ⟨b5, g_b5, hf⟩ := bind_s hf
      have t_b5 := (ldO_spec g_b5).2
      refine gf_RX4_13 107 dX4_advance_104 rfl t_a0 (ldO_spec g_b5).1 ?_
      obtain ⟨b6, g_b6, hf⟩ := bind_s hf
      have t_b6 := (ldA_spec g_b6).2
      refine gf_RX4_28 110 dX4_advance_107 rfl t_b5 (ldA_spec g_b6).1 ?_
      refine vv_aload_n 111 dX4_advance_110 rfl rfl ?_
      refine gf_RX4_20 114 dX4_advance_111 rfl t_a0 ?_
      obtain ⟨r7, g_r7, hf⟩ := bind_s hf
      refine vv_iald 115 dX4_advance_114 rfl t_b6 g_r7 ?_
      refine vv_aload_n 116 dX4_advance_115 rfl rfl ?_
      obtain ⟨b8, g_b8, hf⟩ := bind_s hf
      have t_b8 := (ldO_spec g_b8).2
      refine gf_RX4_7 119 dX4_advance_116 rfl t_a0 (ldO_spec g_b8).1 ?_
      obtain ⟨b9, g_b9, hf⟩ := bind_s hf
      have t_b9 := (ldA_spec g_b9).2
      refine gf_RX4_28 122 dX4_advance_119 rfl t_b8 (ldA_spec g_b9).1 ?_
      refine vv_aload_n 123 dX4_advance_122 rfl rfl ?_
      refine gf_RX4_16 126 dX4_advance_123 rfl t_a0 ?_
      obtain ⟨r10, g_r10, hf⟩ := bind_s hf
      refine vv_iald 127 dX4_advance_126 rfl t_b9 g_r10 ?_
      refine vv_icmp_gt 134 130 dX4_advance_127 rfl (by decide) (fun c11 => ?_) (fun c11 => ?_)
      · rw [if_pos c11] at hf
        exact VV.lle (v_X4_advance_134 t_a0 t_a0 hf) (lle_s (lle_n (lle_n lle_nil)))
      · rw [if_neg c11] at hf
        exact VV.lle (v_X4_advance_130 t_a0 t_a0 hf) (lle_s (lle_n (lle_n lle_nil)))

set_option maxHeartbeats 4000000 in
theorem v_X4_advance_86 {w : Wo} {K : Kn} {a0 : Nat} {q : (Int32 × Mem)} (t_a0 : K a0 = some (.inl 3)) {m : Mem} {x1 : Int32} {x2 : Int32} {sa0 : Nat} (t_sa0 : K sa0 = some (.inl 3)) (hf : f_X4_advance_86 K a0 m x1 x2 sa0 = some q) : VV w RX4 cX4_advance 3 (some .boolean) rm_X4_advance false (QM w K (some (.int q.1)) q.2 0 0) K 86 [some (.ref a0), some (.int x1), some (.int x2)] [.ref sa0] 0 0 m := by
  unfold f_X4_advance_86 at hf
  refine vv_iconst 87 (v := 1) dX4_advance_86 rfl (by decide) ?_
  refine vv_goto 91 dX4_advance_87 (by decide) ?_
  exact v_X4_advance_91 t_a0 t_sa0 hf

set_option maxHeartbeats 4000000 in
theorem v_X4_advance_90 {w : Wo} {K : Kn} {a0 : Nat} {q : (Int32 × Mem)} (t_a0 : K a0 = some (.inl 3)) {m : Mem} {x1 : Int32} {x2 : Int32} {sa0 : Nat} (t_sa0 : K sa0 = some (.inl 3)) (hf : f_X4_advance_90 K a0 m x1 x2 sa0 = some q) : VV w RX4 cX4_advance 3 (some .boolean) rm_X4_advance false (QM w K (some (.int q.1)) q.2 0 0) K 90 [some (.ref a0), some (.int x1), some (.int x2)] [.ref sa0] 0 0 m := by
  unfold f_X4_advance_90 at hf
  refine vv_iconst 91 (v := 0) dX4_advance_90 rfl (by decide) ?_
  exact v_X4_advance_91 t_a0 t_sa0 hf

set_option maxHeartbeats 4000000 in
theorem v_X4_advance_50 {w : Wo} {K : Kn} {a0 : Nat} {q : (Int32 × Mem)} (t_a0 : K a0 = some (.inl 3)) {m : Mem} {x1 : Int32} {x2 : Int32} (hf : f_X4_advance_50 K a0 m x1 x2 = some q) : VV w RX4 cX4_advance 3 (some .boolean) rm_X4_advance false (QM w K (some (.int q.1)) q.2 0 0) K 50 [some (.ref a0), some (.int x1), some (.int x2)] [] 0 0 m := by
  unfold f_X4_advance_50 at hf
  refine vv_aload_n 51 dX4_advance_50 rfl rfl ?_
  refine vv_iload_n 52 dX4_advance_51 rfl rfl ?_
  refine vv_if_eq 90 55 dX4_advance_52 rfl (by decide) (fun c1 => ?_) (fun c1 => ?_)
  · rw [if_pos c1] at hf
    exact v_X4_advance_90 t_a0 t_a0 hf
  · rw [if_neg c1] at hf
    refine vv_iload_n 56 dX4_advance_55 rfl rfl ?_
    refine vv_if_eq 86 59 dX4_advance_56 rfl (by decide) (fun c2 => ?_) (fun c2 => ?_)
    · rw [if_pos c2] at hf
      exact v_X4_advance_86 t_a0 t_a0 hf
    · rw [if_neg c2] at hf
      refine vv_aload_n 60 dX4_advance_59 rfl rfl ?_
      obtain ⟨b3, g_b3, hf⟩ := bind_s hf
      have t_b3 := (ldO_spec g_b3).2
      refine gf_RX4_7 63 dX4_advance_60 rfl t_a0 (ldO_spec g_b3).1 ?_
      obtain ⟨b4, g_b4, hf⟩ := bind_s hf
      have t_b4 := (ldA_spec g_b4).2
      refine gf_RX4_28 66 dX4_advance_63 rfl t_b3 (ldA_spec g_b4).1 ?_
      refine vv_aload_n 67 dX4_advance_66 rfl rfl ?_
      refine gf_RX4_16 70 dX4_advance_67 rfl t_a0 ?_
      obtain ⟨r5, g_r5, hf⟩ := bind_s hf
      refine vv_iald 71 dX4_advance_70 rfl t_b4 g_r5 ?_
      refine vv_aload_n 72 dX4_advance_71 rfl rfl ?_
      obtain ⟨b6, g_b6, hf⟩ := bind_s hf
      have t_b6 := (ldO_spec g_b6).2
      refine gf_RX4_13 75 dX4_advance_72 rfl t_a0 (ldO_spec g_b6).1 ?_
      obtain ⟨b7, g_b7, hf⟩ := bind_s hf
      have t_b7 := (ldA_spec g_b7).2
      refine gf_RX4_28 78 dX4_advance_75 rfl t_b6 (ldA_spec g_b7).1 ?_
      refine vv_aload_n 79 dX4_advance_78 rfl rfl ?_
      refine gf_RX4_20 82 dX4_advance_79 rfl t_a0 ?_
      obtain ⟨r8, g_r8, hf⟩ := bind_s hf
      refine vv_iald 83 dX4_advance_82 rfl t_b7 g_r8 ?_
      refine vv_icmp_gt 90 86 dX4_advance_83 rfl (by decide) (fun c9 => ?_) (fun c9 => ?_)
      · rw [if_pos c9] at hf
        exact v_X4_advance_90 t_a0 t_a0 hf
      · rw [if_neg c9] at hf
        exact v_X4_advance_86 t_a0 t_a0 hf

set_option maxHeartbeats 4000000 in
theorem v_X4_advance_39 {w : Wo} {K : Kn} {a0 : Nat} {q : (Int32 × Mem)} (t_a0 : K a0 = some (.inl 3)) {m : Mem} {x1 : Int32} {s0 : Int32} (hf : f_X4_advance_39 K a0 m x1 s0 = some q) : VV w RX4 cX4_advance 3 (some .boolean) rm_X4_advance false (QM w K (some (.int q.1)) q.2 0 0) K 39 [some (.ref a0), some (.int x1), none] [.int s0] 0 0 m := by
  unfold f_X4_advance_39 at hf
  refine vv_istore_n 40 (L' := [some (.ref a0), some (.int x1), some (.int s0)]) dX4_advance_39 rfl (Nat.le_of_ble_eq_true rfl) rfl ?_
  refine vv_iload_n 41 dX4_advance_40 rfl rfl ?_
  refine vv_if_ne 50 44 dX4_advance_41 rfl (by decide) (fun c1 => ?_) (fun c1 => ?_)
  · rw [if_pos c1] at hf
    refine vv_iload_n 45 dX4_advance_44 rfl rfl ?_
    refine vv_if_ne 50 48 dX4_advance_45 rfl (by decide) (fun c2 => ?_) (fun c2 => ?_)
    · rw [if_pos c2] at hf
      refine vv_iconst 49 (v := 0) dX4_advance_48 rfl (by decide) ?_
      obtain rfl := Option.some.inj hf
      exact vv_zret dX4_advance_49 rfl (Or.inl rfl)
    · rw [if_neg c2] at hf
      exact v_X4_advance_50 t_a0 hf
  · rw [if_neg c1] at hf
    exact v_X4_advance_50 t_a0 hf

set_option maxHeartbeats 4000000 in
theorem v_X4_advance_19 {w : Wo} {K : Kn} {a0 : Nat} {q : (Int32 × Mem)} (t_a0 : K a0 = some (.inl 3)) {m : Mem} {s0 : Int32} (hf : f_X4_advance_19 K a0 m s0 = some q) : VV w RX4 cX4_advance 3 (some .boolean) rm_X4_advance false (QM w K (some (.int q.1)) q.2 0 0) K 19 [some (.ref a0), none, none] [.int s0] 0 0 m := by
  unfold f_X4_advance_19 at hf
  refine vv_istore_n 20 (L' := [some (.ref a0), some (.int s0), none]) dX4_advance_19 rfl (Nat.le_of_ble_eq_true rfl) rfl ?_
  refine vv_aload_n 21 dX4_advance_20 rfl rfl ?_
  refine gf_RX4_20 24 dX4_advance_21 rfl t_a0 ?_
  refine vv_aload_n 25 dX4_advance_24 rfl rfl ?_
  obtain ⟨b1, g_b1, hf⟩ := bind_s hf
  have t_b1 := (ldO_spec g_b1).2
  refine gf_RX4_13 28 dX4_advance_25 rfl t_a0 (ldO_spec g_b1).1 ?_
  refine gf_RX4_23 31 dX4_advance_28 rfl t_b1 ?_
  refine vv_icmp_ge 38 34 dX4_advance_31 rfl (by decide) (fun c2 => ?_) (fun c2 => ?_)
  · rw [if_pos c2] at hf
    refine vv_iconst 39 (v := 0) dX4_advance_38 rfl (by decide) ?_
    exact v_X4_advance_39 t_a0 hf
  · rw [if_neg c2] at hf
    refine vv_iconst 35 (v := 1) dX4_advance_34 rfl (by decide) ?_
    refine vv_goto 39 dX4_advance_35 (by decide) ?_
    exact v_X4_advance_39 t_a0 hf

set_option maxHeartbeats 4000000 in
theorem v_X4_advance_0 {w : Wo} {K : Kn} {a0 : Nat} {q : (Int32 × Mem)} (t_a0 : K a0 = some (.inl 3)) {m : Mem} (hf : f_X4_advance K a0 m = some q) : VV w RX4 cX4_advance 3 (some .boolean) rm_X4_advance false (QM w K (some (.int q.1)) q.2 0 0) K 0 [some (.ref a0), none, none] [] 0 0 m := by
  unfold f_X4_advance at hf
  refine vv_aload_n 1 dX4_advance_0 rfl rfl ?_
  refine gf_RX4_16 4 dX4_advance_1 rfl t_a0 ?_
  refine vv_aload_n 5 dX4_advance_4 rfl rfl ?_
  obtain ⟨b1, g_b1, hf⟩ := bind_s hf
  have t_b1 := (ldO_spec g_b1).2
  refine gf_RX4_7 8 dX4_advance_5 rfl t_a0 (ldO_spec g_b1).1 ?_
  refine gf_RX4_23 11 dX4_advance_8 rfl t_b1 ?_
  refine vv_icmp_ge 18 14 dX4_advance_11 rfl (by decide) (fun c2 => ?_) (fun c2 => ?_)
  · rw [if_pos c2] at hf
    refine vv_iconst 19 (v := 0) dX4_advance_18 rfl (by decide) ?_
    exact v_X4_advance_19 t_a0 hf
  · rw [if_neg c2] at hf
    refine vv_iconst 15 (v := 1) dX4_advance_14 rfl (by decide) ?_
    refine vv_goto 19 dX4_advance_15 (by decide) ?_
    exact v_X4_advance_19 t_a0 hf

theorem c_X4_advance {w : Wo} {K : Kn} {a0 : Nat} {q : (Int32 × Mem)} {m : Mem} (t_a0 : K a0 = some (.inl 3)) (hf : F_X4_advance K m a0 = some q) : MM w K K yX4_advance cX4_advance 3 (some .boolean) rm_X4_advance [.ref a0] m (some (.int q.1)) q.2 0 0 :=
  mm_of (ini := false) (n := 2) (plainFor_of_name (by decide)) rfl (fun h => by first | rfl | cases h) (Nat.le_of_ble_eq_true rfl) rfl (v_X4_advance_0 t_a0 hf)

set_option maxHeartbeats 4000000 in
theorem v_X4_isInBoth_18 {w : Wo} {K : Kn} {a0 : Nat} {q : Int32} {m : Mem} (t_a0 : K a0 = some (.inl 3)) (hf : f_X4_isInBoth_18 K m a0 = some q) : VV w RX4 cX4_isInBoth 1 (some .boolean) rm_X4_isInBoth false (QM w K (some (.int q)) m 0 0) K 18 [none] [] 0 0 m := by
  unfold f_X4_isInBoth_18 at hf
  refine vv_iconst 19 (v := 0) dX4_isInBoth_18 rfl (by decide) ?_
  obtain rfl := Option.some.inj hf
  exact vv_zret dX4_isInBoth_19 rfl (Or.inl rfl)

set_option maxHeartbeats 4000000 in
theorem v_X4_isInBoth_0 {w : Wo} {K : Kn} {a0 : Nat} {q : Int32} {m : Mem} (t_a0 : K a0 = some (.inl 3)) (hf : f_X4_isInBoth K m a0 = some q) : VV w RX4 cX4_isInBoth 1 (some .boolean) rm_X4_isInBoth false (QM w K (some (.int q)) m 0 0) K 0 [some (.ref a0)] [] 0 0 m := by
  unfold f_X4_isInBoth at hf
  refine vv_aload_n 1 dX4_isInBoth_0 rfl rfl ?_
  refine gf_RX4_32 4 dX4_isInBoth_1 rfl t_a0 ?_
  refine vv_if_eq 18 7 dX4_isInBoth_4 rfl (by decide) (fun c1 => ?_) (fun c1 => ?_)
  · rw [if_pos c1] at hf
    exact VV.lle (v_X4_isInBoth_18 t_a0 hf) (lle_n lle_nil)
  · rw [if_neg c1] at hf
    refine vv_aload_n 8 dX4_isInBoth_7 rfl rfl ?_
    refine gf_RX4_36 11 dX4_isInBoth_8 rfl t_a0 ?_
    refine vv_if_eq 18 14 dX4_isInBoth_11 rfl (by decide) (fun c2 => ?_) (fun c2 => ?_)
    · rw [if_pos c2] at hf
      exact VV.lle (v_X4_isInBoth_18 t_a0 hf) (lle_n lle_nil)
    · rw [if_neg c2] at hf
      refine vv_iconst 15 (v := 1) dX4_isInBoth_14 rfl (by decide) ?_
      refine vv_goto 19 dX4_isInBoth_15 (by decide) ?_
      obtain rfl := Option.some.inj hf
      exact vv_zret dX4_isInBoth_19 rfl (Or.inr rfl)

theorem c_X4_isInBoth {w : Wo} {K : Kn} {a0 : Nat} {q : Int32} {m : Mem} (t_a0 : K a0 = some (.inl 3)) (hf : F_X4_isInBoth K m a0 = some q) : MM w K K yX4_isInBoth cX4_isInBoth 1 (some .boolean) rm_X4_isInBoth [.ref a0] m (some (.int q)) m 0 0 :=
  mm_of (ini := false) (n := 0) (plainFor_of_name (by decide)) rfl (fun h => by first | rfl | cases h) (Nat.le_of_ble_eq_true rfl) rfl (v_X4_isInBoth_0 t_a0 hf)

set_option maxHeartbeats 4000000 in
theorem v_X4_isAlike_0 {w : Wo} {K : Kn} {a0 : Nat} {q : Int32} {m : Mem} (t_a0 : K a0 = some (.inl 3)) (hf : f_X4_isAlike K m a0 = some q) : VV w RX4 cX4_isAlike 1 (some .boolean) rm_X4_isAlike false (QM w K (some (.int q)) m 0 0) K 0 [some (.ref a0)] [] 0 0 m := by
  unfold f_X4_isAlike at hf
  refine vv_aload_n 1 dX4_isAlike_0 rfl rfl ?_
  refine gf_RX4_43 4 dX4_isAlike_1 rfl t_a0 ?_
  obtain ⟨h1, hf⟩ := gd_s hf
  obtain rfl := Option.some.inj hf
  exact vv_zret dX4_isAlike_4 rfl h1

theorem c_X4_isAlike {w : Wo} {K : Kn} {a0 : Nat} {q : Int32} {m : Mem} (t_a0 : K a0 = some (.inl 3)) (hf : F_X4_isAlike K m a0 = some q) : MM w K K yX4_isAlike cX4_isAlike 1 (some .boolean) rm_X4_isAlike [.ref a0] m (some (.int q)) m 0 0 :=
  mm_of (ini := false) (n := 0) (plainFor_of_name (by decide)) rfl (fun h => by first | rfl | cases h) (Nat.le_of_ble_eq_true rfl) rfl (v_X4_isAlike_0 t_a0 hf)

set_option maxHeartbeats 4000000 in
theorem v_X8_both_91 {w : Wo} {K : Kn} {a0 : Nat} {x1 : Int32} {x2 : Int32} {x3 : Int32} {q : (Int32 × Mem)} (t_a0 : K a0 = some (.inl 7)) (k46 : Mem → Int32 → Int32 → Option (Int32 × Mem)) (hk46 : ∀ (m : Mem) (x4 : Int32) (x5 : Int32), k46 m x4 x5 = some q → VV w RX8 cX8_both 6 (some .int) rm_X8_both false (QM w K (some (.int q.1)) q.2 0 0) K 46 [some (.ref a0), none, none, some (.int x3), some (.int x4), some (.int x5)] [] 0 0 m) {m : Mem} {x4 : Int32} {x5 : Int32} (hf : f_X8_both_91 K a0 x1 x2 x3 k46 m x4 x5 = some q) : VV w RX8 cX8_both 6 (some .int) rm_X8_both false (QM w K (some (.int q.1)) q.2 0 0) K 91 [some (.ref a0), none, none, some (.int x3), some (.int x4), some (.int x5)] [] 0 0 m := by
  unfold f_X8_both_91 at hf
  obtain ⟨z1, e_z1, hf⟩ := bd_s hf
  refine vv_iincE (q := 94) (v := z1) (c := (-1)) (L' := [some (.ref a0), none, none, some (.int x3), some (.int x4), some (.int z1)]) e_z1 dX8_both_91 rfl rfl (by decide) (Nat.le_of_ble_eq_true rfl) rfl ?_
  refine vv_goto 46 dX8_both_94 (by decide) ?_
  exact hk46 _ _ _ hf

set_option maxHeartbeats 4000000 in
theorem v_X8_both_88 {w : Wo} {K : Kn} {a0 : Nat} {x1 : Int32} {x2 : Int32} {x3 : Int32} {q : (Int32 × Mem)} (t_a0 : K a0 = some (.inl 7)) (k46 : Mem → Int32 → Int32 → Option (Int32 × Mem)) (hk46 : ∀ (m : Mem) (x4 : Int32) (x5 : Int32), k46 m x4 x5 = some q → VV w RX8 cX8_both 6 (some .int) rm_X8_both false (QM w K (some (.int q.1)) q.2 0 0) K 46 [some (.ref a0), none, none, some (.int x3), some (.int x4), some (.int x5)] [] 0 0 m) {m : Mem} {x4 : Int32} {x5 : Int32} (hf : f_X8_both_88 K a0 x1 x2 x3 k46 m x4 x5 = some q) : VV w RX8 cX8_both 6 (some .int) rm_X8_both false (QM w K (some (.int q.1)) q.2 0 0) K 88 [some (.ref a0), none, none, some (.int x3), some (.int x4), some (.int x5)] [] 0 0 m := by
  unfold f_X8_both_88 at hf
  obtain ⟨z1, e_z1, hf⟩ := bd_s hf
  refine vv_iincE (q := 91) (v := z1) (c := 1) (L' := [some (.ref a0), none, none, some (.int x3), some (.int z1), some (.int x5)]) e_z1 dX8_both_88 rfl rfl (by decide) (Nat.le_of_ble_eq_true rfl) rfl ?_
  exact v_X8_both_91 t_a0 k46 hk46 hf

set_option maxHeartbeats 4000000 in
theorem v_X8_both_97 {w : Wo} {K : Kn} {a0 : Nat} {x1 : Int32} {x2 : Int32} {x3 : Int32} {q : (Int32 × Mem)} (t_a0 : K a0 = some (.inl 7)) {m : Mem} {x4 : Int32} (hf : f_X8_both_97 K a0 x1 x2 x3 m x4 = some q) : VV w RX8 cX8_both 6 (some .int) rm_X8_both false (QM w K (some (.int q.1)) q.2 0 0) K 97 [none, none, none, none, some (.int x4), none] [] 0 0 m := by
  unfold f_X8_both_97 at hf
  refine vv_iload 99 dX8_both_97 rfl rfl ?_
  obtain rfl := Option.some.inj hf
  exact vv_iret dX8_both_99 rfl

set_option maxHeartbeats 4000000 in
theorem v_X8_both_46B {w : Wo} {K : Kn} {a0 : Nat} {x1 : Int32} {x2 : Int32} {x3 : Int32} {q : (Int32 × Mem)} (t_a0 : K a0 = some (.inl 7)) (k46 : Mem → Int32 → Int32 → Option (Int32 × Mem)) (hk46 : ∀ (m : Mem) (x4 : Int32) (x5 : Int32), k46 m x4 x5 = some q → VV w RX8 cX8_both 6 (some .int) rm_X8_both false (QM w K (some (.int q.1)) q.2 0 0) K 46 [some (.ref a0), none, none, some (.int x3), some (.int x4), some (.int x5)] [] 0 0 m) {m : Mem} {x4 : Int32} {x5 : Int32} (hf : f_X8_both_46B K a0 x1 x2 x3 k46 m x4 x5 = some q) : VV w RX8 cX8_both 6 (some .int) rm_X8_both false (QM w K (some (.int q.1)) q.2 0 0) K 46 [some (.ref a0), none, none, some (.int x3), some (.int x4), some (.int x5)] [] 0 0 m := by
  unfold f_X8_both_46B at hf
  refine vv_iload 48 dX8_both_46 rfl rfl ?_
  refine vv_if_le 97 51 dX8_both_48 rfl (by decide) (fun c1 => ?_) (fun c1 => ?_)
  · rw [if_pos c1] at hf
    exact VV.lle (v_X8_both_97 t_a0 hf) (lle_n (lle_s (lle_s (lle_n (lle_s (lle_n lle_nil))))))
  · rw [if_neg c1] at hf
    refine vv_aload_n 52 dX8_both_51 rfl rfl ?_
    obtain ⟨b2, g_b2, hf⟩ := bind_s hf
    have t_b2 := (ldO_spec g_b2).2
    refine gf_RX8_37 55 dX8_both_52 rfl t_a0 (ldO_spec g_b2).1 ?_
    obtain ⟨q3, g_q3, hf⟩ := bind_s hf
    refine vv_callV 58 (st := []) (As := []) (stk2 := [.int q3.1]) (cl2 := 0) (sl2 := 0) dX8_both_55 rfl lk_RX8_312 w_967 w_968 rfl t_b2 ⟨(Nat.le_of_ble_eq_true rfl), (Nat.le_of_ble_eq_true rfl)⟩ rfl rfl ⟨(Nat.le_of_ble_eq_true rfl), (Nat.le_of_ble_eq_true rfl)⟩ rfl (Nat.le_of_ble_eq_true rfl) rfl rfl rfl rfl (c_X4_advance t_b2 g_q3) ?_
    refine vv_if_eq 97 61 dX8_both_58 rfl (by decide) (fun c4 => ?_) (fun c4 => ?_)
    · rw [if_pos c4] at hf
      exact VV.lle (v_X8_both_97 t_a0 hf) (lle_n (lle_s (lle_s (lle_n (lle_s (lle_n lle_nil))))))
    · rw [if_neg c4] at hf
      refine vv_iload_n 62 dX8_both_61 rfl rfl ?_
      refine vv_if_ne 78 65 dX8_both_62 rfl (by decide) (fun c5 => ?_) (fun c5 => ?_)
      · rw [if_pos c5] at hf
        refine vv_aload_n 66 dX8_both_65 rfl rfl ?_
        obtain ⟨b6, g_b6, hf⟩ := bind_s hf
        have t_b6 := (ldO_spec g_b6).2
        refine gf_RX8_37 69 dX8_both_66 rfl t_a0 (ldO_spec g_b6).1 ?_
        obtain ⟨q7, g_q7, hf⟩ := bind_s hf
        refine vv_callV 72 (st := []) (As := []) (stk2 := [.int q7]) (cl2 := 0) (sl2 := 0) dX8_both_69 rfl lk_RX8_316 w_971 w_972 rfl t_b6 ⟨(Nat.le_of_ble_eq_true rfl), (Nat.le_of_ble_eq_true rfl)⟩ rfl rfl ⟨(Nat.le_of_ble_eq_true rfl), (Nat.le_of_ble_eq_true rfl)⟩ rfl (Nat.le_of_ble_eq_true rfl) rfl rfl rfl rfl (c_X4_isInBoth t_b6 g_q7) ?_
        refine vv_if_eq 91 75 dX8_both_72 rfl (by decide) (fun c8 => ?_) (fun c8 => ?_)
        · rw [if_pos c8] at hf
          exact v_X8_both_91 t_a0 k46 hk46 hf
        · rw [if_neg c8] at hf
          refine vv_goto 88 dX8_both_75 (by decide) ?_
          exact v_X8_both_88 t_a0 k46 hk46 hf
      · rw [if_neg c5] at hf
        refine vv_aload_n 79 dX8_both_78 rfl rfl ?_
        obtain ⟨b9, g_b9, hf⟩ := bind_s hf
        have t_b9 := (ldO_spec g_b9).2
        refine gf_RX8_37 82 dX8_both_79 rfl t_a0 (ldO_spec g_b9).1 ?_
        obtain ⟨q10, g_q10, hf⟩ := bind_s hf
        refine vv_callV 85 (st := []) (As := []) (stk2 := [.int q10]) (cl2 := 0) (sl2 := 0) dX8_both_82 rfl lk_RX8_319 w_975 w_976 rfl t_b9 ⟨(Nat.le_of_ble_eq_true rfl), (Nat.le_of_ble_eq_true rfl)⟩ rfl rfl ⟨(Nat.le_of_ble_eq_true rfl), (Nat.le_of_ble_eq_true rfl)⟩ rfl (Nat.le_of_ble_eq_true rfl) rfl rfl rfl rfl (c_X4_isAlike t_b9 g_q10) ?_
        refine vv_if_eq 91 88 dX8_both_85 rfl (by decide) (fun c11 => ?_) (fun c11 => ?_)
        · rw [if_pos c11] at hf
          exact v_X8_both_91 t_a0 k46 hk46 hf
        · rw [if_neg c11] at hf
          exact v_X8_both_88 t_a0 k46 hk46 hf

theorem v_X8_both_46 {w : Wo} {K : Kn} {a0 : Nat} {x1 : Int32} {x2 : Int32} {x3 : Int32} {q : (Int32 × Mem)} (t_a0 : K a0 = some (.inl 7)) : ∀ (n : Nat) (m : Mem) (x4 : Int32) (x5 : Int32), f_X8_both_46 K a0 x1 x2 x3 n m x4 x5 = some q → VV w RX8 cX8_both 6 (some .int) rm_X8_both false (QM w K (some (.int q.1)) q.2 0 0) K 46 [some (.ref a0), none, none, some (.int x3), some (.int x4), some (.int x5)] [] 0 0 m := by
  intro n
  induction n with
  | zero => intro m x4 x5 hf; cases hf
  | succ n ih => intro m x4 x5 hf; exact v_X8_both_46B (a0 := a0) (x1 := x1) (x2 := x2) (x3 := x3) t_a0 (f_X8_both_46 K a0 x1 x2 x3 n) ih hf

set_option maxHeartbeats 4000000 in
theorem v_X8_both_0 {w : Wo} {K : Kn} {a0 : Nat} {x1 : Int32} {x2 : Int32} {x3 : Int32} {q : (Int32 × Mem)} (t_a0 : K a0 = some (.inl 7)) {m : Mem} (hf : f_X8_both K a0 x1 x2 x3 m = some q) : VV w RX8 cX8_both 6 (some .int) rm_X8_both false (QM w K (some (.int q.1)) q.2 0 0) K 0 [some (.ref a0), some (.int x1), some (.int x2), some (.int x3), none, none] [] 0 0 m := by
  unfold f_X8_both at hf
  refine vv_aload_n 1 dX8_both_0 rfl rfl ?_
  refine vv_iload_n 2 dX8_both_1 rfl rfl ?_
  obtain ⟨q1, g_q1, hf⟩ := bind_s hf
  refine vv_callV 5 (st := []) (As := [.int x1]) (stk2 := [.int q1]) (cl2 := 0) (sl2 := 0) dX8_both_2 rfl lk_RX8_81 w_469 w_0 rfl t_a0 ⟨(Nat.le_of_ble_eq_true rfl), (Nat.le_of_ble_eq_true rfl)⟩ rfl rfl ⟨(Nat.le_of_ble_eq_true rfl), (Nat.le_of_ble_eq_true rfl)⟩ rfl (Nat.le_of_ble_eq_true rfl) rfl rfl rfl rfl (c_X8_isNone t_a0 g_q1) ?_
  refine vv_if_ne 25 8 dX8_both_5 rfl (by decide) (fun c2 => ?_) (fun c2 => ?_)
  · rw [if_pos c2] at hf
    refine vv_aload_n 9 dX8_both_8 rfl rfl ?_
    refine vv_iload_n 10 dX8_both_9 rfl rfl ?_
    obtain ⟨q3, g_q3, hf⟩ := bind_s hf
    refine vv_callV 13 (st := []) (As := [.int x2]) (stk2 := [.int q3]) (cl2 := 0) (sl2 := 0) dX8_both_10 rfl lk_RX8_81 w_469 w_0 rfl t_a0 ⟨(Nat.le_of_ble_eq_true rfl), (Nat.le_of_ble_eq_true rfl)⟩ rfl rfl ⟨(Nat.le_of_ble_eq_true rfl), (Nat.le_of_ble_eq_true rfl)⟩ rfl (Nat.le_of_ble_eq_true rfl) rfl rfl rfl rfl (c_X8_isNone t_a0 g_q3) ?_
    refine vv_if_ne 25 16 dX8_both_13 rfl (by decide) (fun c4 => ?_) (fun c4 => ?_)
    · rw [if_pos c4] at hf
      refine vv_iload_n 17 dX8_both_16 rfl rfl ?_
      refine vv_if_lt 25 20 dX8_both_17 rfl (by decide) (fun c5 => ?_) (fun c5 => ?_)
      · rw [if_pos c5] at hf
        refine vv_bipush 27 (v := (-2)) dX8_both_25 rfl (by decide) ?_
        obtain rfl := Option.some.inj hf
        exact vv_iret dX8_both_27 rfl
      · rw [if_neg c5] at hf
        refine vv_iload_n 21 dX8_both_20 rfl rfl ?_
        refine vv_iconst 22 (v := 1) dX8_both_21 rfl (by decide) ?_
        refine vv_icmp_le 28 25 dX8_both_22 rfl (by decide) (fun c6 => ?_) (fun c6 => ?_)
        · rw [if_pos c6] at hf
          refine vv_aload_n 29 dX8_both_28 rfl rfl ?_
          refine vv_iload_n 30 dX8_both_29 rfl rfl ?_
          refine vv_iload_n 31 dX8_both_30 rfl rfl ?_
          obtain ⟨q7, g_q7, hf⟩ := bind_s hf
          refine vv_callV 34 (st := []) (As := [.int x1, .int x2]) (stk2 := []) (cl2 := 0) (sl2 := 0) dX8_both_31 rfl lk_RX8_305 w_960 w_16 rfl t_a0 ⟨(Nat.le_of_ble_eq_true rfl), (Nat.le_of_ble_eq_true rfl)⟩ rfl rfl ⟨(Nat.le_of_ble_eq_true rfl), (Nat.le_of_ble_eq_true rfl)⟩ rfl (Nat.le_of_ble_eq_true rfl) rfl rfl rfl rfl (c_X8_gatherBoth t_a0 g_q7) ?_
          refine vv_iconst 35 (v := 0) dX8_both_34 rfl (by decide) ?_
          refine vv_istore 37 (L' := [some (.ref a0), some (.int x1), some (.int x2), some (.int x3), some (.int (0 : Int32)), none]) dX8_both_35 rfl (Nat.le_of_ble_eq_true rfl) rfl ?_
          refine vv_aload_n 38 dX8_both_37 rfl rfl ?_
          obtain ⟨b8, g_b8, hf⟩ := bind_s hf
          have t_b8 := (ldO_spec g_b8).2
          refine gf_RX8_37 41 dX8_both_38 rfl t_a0 (ldO_spec g_b8).1 ?_
          obtain ⟨q9, g_q9, hf⟩ := bind_s hf
          refine vv_callV 44 (st := []) (As := []) (stk2 := [.int q9.1]) (cl2 := 0) (sl2 := 0) dX8_both_41 rfl lk_RX8_309 w_963 w_964 rfl t_b8 ⟨(Nat.le_of_ble_eq_true rfl), (Nat.le_of_ble_eq_true rfl)⟩ rfl rfl ⟨(Nat.le_of_ble_eq_true rfl), (Nat.le_of_ble_eq_true rfl)⟩ rfl (Nat.le_of_ble_eq_true rfl) rfl rfl rfl rfl (c_X4_begin t_b8 g_q9) ?_
          obtain ⟨z10, e_z10, hf⟩ := bd_s hf
          refine vv_istoreE (q := 46) (v := z10) (L' := [some (.ref a0), some (.int x1), some (.int x2), some (.int x3), some (.int (0 : Int32)), some (.int z10)]) e_z10 dX8_both_44 rfl (Nat.le_of_ble_eq_true rfl) rfl ?_
          exact VV.lle (v_X8_both_46 t_a0 FU _ _ _ hf) (lle_s (lle_n (lle_n (lle_s (lle_s (lle_s lle_nil))))))
        · rw [if_neg c6] at hf
          refine vv_bipush 27 (v := (-2)) dX8_both_25 rfl (by decide) ?_
          obtain rfl := Option.some.inj hf
          exact vv_iret dX8_both_27 rfl
    · rw [if_neg c4] at hf
      refine vv_bipush 27 (v := (-2)) dX8_both_25 rfl (by decide) ?_
      obtain rfl := Option.some.inj hf
      exact vv_iret dX8_both_27 rfl
  · rw [if_neg c2] at hf
    refine vv_bipush 27 (v := (-2)) dX8_both_25 rfl (by decide) ?_
    obtain rfl := Option.some.inj hf
    exact vv_iret dX8_both_27 rfl

theorem c_X8_both {w : Wo} {K : Kn} {a0 : Nat} {x1 : Int32} {x2 : Int32} {x3 : Int32} {q : (Int32 × Mem)} {m : Mem} (t_a0 : K a0 = some (.inl 7)) (hf : F_X8_both K m a0 x1 x2 x3 = some q) : MM w K K yX8_both cX8_both 6 (some .int) rm_X8_both [.ref a0, .int x1, .int x2, .int x3] m (some (.int q.1)) q.2 0 0 :=
  mm_of (ini := false) (n := 2) (plainFor_of_name (by decide)) rfl (fun h => by first | rfl | cases h) (Nat.le_of_ble_eq_true rfl) rfl (v_X8_both_0 t_a0 hf)
