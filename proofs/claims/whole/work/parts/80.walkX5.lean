/-! ===== the walks ===== -/
abbrev rm_X2_seek : Room := { frames := 6, cells := 0, slots := 0, locals := 142 }
abbrev rm_X8_mends : Room := { frames := 7, cells := 0, slots := 0, locals := 170 }
abbrev rm_X8_mend : Room := { frames := 7, cells := 0, slots := 0, locals := 170 }
abbrev rm_X8_seals : Room := { frames := 2, cells := 0, slots := 0, locals := 43 }
abbrev rm_X7_remove : Room := { frames := 0, cells := 0, slots := 0, locals := 0 }
abbrev rm_X8_drops : Room := { frames := 3, cells := 0, slots := 0, locals := 63 }
abbrev rm_X5_countBelow : Room := { frames := 1, cells := 0, slots := 0, locals := 21 }
abbrev rm_X5_ranked : Room := { frames := 2, cells := 0, slots := 0, locals := 45 }
abbrev rm_X8_least : Room := { frames := 6, cells := 0, slots := 0, locals := 149 }
abbrev rm_X5_passings : Room := { frames := 1, cells := 0, slots := 0, locals := 21 }
abbrev rm_X8_passes : Room := { frames := 7, cells := 0, slots := 0, locals := 170 }
abbrev rm_X8_since : Room := { frames := 6, cells := 0, slots := 0, locals := 149 }
abbrev rm_X3_times : Room := { frames := 3, cells := 0, slots := 0, locals := 77 }
abbrev rm_X5_surface : Room := { frames := 4, cells := 0, slots := 0, locals := 110 }
abbrev rm_X8_area : Room := { frames := 6, cells := 0, slots := 0, locals := 149 }
abbrev rm_X8_feed : Room := { frames := 1, cells := 0, slots := 0, locals := 22 }
abbrev rm_X8_end : Room := { frames := 0, cells := 0, slots := 0, locals := 0 }
abbrev rm_X7_take : Room := { frames := 3, cells := 0, slots := 0, locals := 64 }
abbrev rm_X8_takenBy : Room := { frames := 5, cells := 0, slots := 0, locals := 118 }
abbrev rm_X8_takes : Room := { frames := 6, cells := 0, slots := 0, locals := 140 }
abbrev rm_X8_taped : Room := { frames := 0, cells := 0, slots := 0, locals := 0 }
set_option maxHeartbeats 4000000 in
theorem v_X2_seek_161 {w : Wo} {K : Kn} {a0 : Nat} {a1 : Nat} {x2 : Int32} {q : (Int32 × Mem)} (t_a0 : K a0 = some (.inl 2)) (t_a1 : K a1 = some (.inl 0)) {m : Mem} {x3 : Int32} {x4 : Int32} (hf : f_X2_seek_161 K a0 a1 x2 m x3 x4 = some q) : VV w RX2 cX2_seek 9 (some .int) rm_X2_seek false (QM w K (some (.int q.1)) q.2 0 0) K 161 [some (.ref a0), some (.ref a1), none, some (.int x3), some (.int x4), none, none, none, none] [] 0 0 m := by
  unfold f_X2_seek_161 at hf
  refine vv_aload_n 162 dX2_seek_161 rfl rfl ?_
  refine vv_aload_n 163 dX2_seek_162 rfl rfl ?_
  refine vv_iload_n 164 dX2_seek_163 rfl rfl ?_
  refine vv_iload 166 dX2_seek_164 rfl rfl ?_
  obtain ⟨q1, g_q1, hf⟩ := bind_s hf
  refine vv_callV 169 (st := []) (As := [.ref a1, .int x3, .int x4]) (stk2 := []) (cl2 := 0) (sl2 := 0) dX2_seek_166 rfl lk_RX2_46 w_745 w_13 rfl t_a0 ⟨(Nat.le_of_ble_eq_true rfl), (Nat.le_of_ble_eq_true rfl)⟩ rfl rfl ⟨(Nat.le_of_ble_eq_true rfl), (Nat.le_of_ble_eq_true rfl)⟩ rfl (Nat.le_of_ble_eq_true rfl) rfl rfl rfl rfl (c_X2_tryChange t_a0 t_a1 g_q1) ?_
  refine vv_aload_n 170 dX2_seek_169 rfl rfl ?_
  refine gf_RX2_13 173 dX2_seek_170 rfl t_a0 ?_
  obtain rfl := Option.some.inj hf
  exact vv_iret dX2_seek_173 rfl

set_option maxHeartbeats 4000000 in
theorem v_X2_seek_83B {w : Wo} {K : Kn} {a0 : Nat} {a1 : Nat} {x2 : Int32} {q : (Int32 × Mem)} (t_a0 : K a0 = some (.inl 2)) (t_a1 : K a1 = some (.inl 0)) (k83 : Mem → Int32 → Int32 → Int32 → Int32 → Int32 → Option (Int32 × Mem)) (hk83 : ∀ (m : Mem) (x3 : Int32) (x4 : Int32) (x5 : Int32) (x6 : Int32) (x7 : Int32), k83 m x3 x4 x5 x6 x7 = some q → VV w RX2 cX2_seek 9 (some .int) rm_X2_seek false (QM w K (some (.int q.1)) q.2 0 0) K 83 [some (.ref a0), some (.ref a1), none, some (.int x3), some (.int x4), some (.int x5), some (.int x6), some (.int x7), none] [] 0 0 m) {m : Mem} {x3 : Int32} {x4 : Int32} {x5 : Int32} {x6 : Int32} {x7 : Int32} (hf : f_X2_seek_83B K a0 a1 x2 k83 m x3 x4 x5 x6 x7 = some q) : VV w RX2 cX2_seek 9 (some .int) rm_X2_seek false (QM w K (some (.int q.1)) q.2 0 0) K 83 [some (.ref a0), some (.ref a1), none, some (.int x3), some (.int x4), some (.int x5), some (.int x6), some (.int x7), none] [] 0 0 m := by
  unfold f_X2_seek_83B at hf
  refine vv_iload 85 dX2_seek_83 rfl rfl ?_
  refine vv_iload_n 86 dX2_seek_85 rfl rfl ?_
  refine vv_icmp_ge 161 89 dX2_seek_86 rfl (by decide) (fun c1 => ?_) (fun c1 => ?_)
  · rw [if_pos c1] at hf
    exact VV.lle (v_X2_seek_161 t_a0 t_a1 hf) (lle_s (lle_s (lle_s (lle_s (lle_s (lle_n (lle_n (lle_n (lle_s lle_nil)))))))))
  · rw [if_neg c1] at hf
    refine vv_aload_n 90 dX2_seek_89 rfl rfl ?_
    obtain ⟨b2, g_b2, hf⟩ := bind_s hf
    have t_b2 := (ldA_spec g_b2).2
    refine gf_RX2_36 93 dX2_seek_90 rfl t_a1 (ldA_spec g_b2).1 ?_
    refine vv_iload_n 94 dX2_seek_93 rfl rfl ?_
    obtain ⟨r3, g_r3, hf⟩ := bind_s hf
    refine vv_iald 95 dX2_seek_94 rfl t_b2 g_r3 ?_
    refine vv_sipush 98 (v := 251) dX2_seek_95 rfl (by decide) ?_
    refine vv_icmp_ge 161 101 dX2_seek_98 rfl (by decide) (fun c4 => ?_) (fun c4 => ?_)
    · rw [if_pos c4] at hf
      exact VV.lle (v_X2_seek_161 t_a0 t_a1 hf) (lle_s (lle_s (lle_s (lle_s (lle_s (lle_n (lle_n (lle_n (lle_s lle_nil)))))))))
    · rw [if_neg c4] at hf
      refine vv_aload_n 102 dX2_seek_101 rfl rfl ?_
      obtain ⟨b5, g_b5, hf⟩ := bind_s hf
      have t_b5 := (ldA_spec g_b5).2
      refine gf_RX2_36 105 dX2_seek_102 rfl t_a1 (ldA_spec g_b5).1 ?_
      refine vv_iload 107 dX2_seek_105 rfl rfl ?_
      obtain ⟨r6, g_r6, hf⟩ := bind_s hf
      refine vv_iald 108 dX2_seek_107 rfl t_b5 g_r6 ?_
      refine vv_iload 110 dX2_seek_108 rfl rfl ?_
      refine vv_iload 112 dX2_seek_110 rfl rfl ?_
      refine vv_imul 113 dX2_seek_112 rfl ?_
      refine vv_iadd 114 dX2_seek_113 rfl ?_
      refine vv_sipush 117 (v := 251) dX2_seek_114 rfl (by decide) ?_
      obtain ⟨q7, g_q7, hf⟩ := bind_s hf
      refine vv_callS 120 (st := []) (As := [.int (r6 + (x5 * x6)), .int (251 : Int32)]) (stk2 := [.int q7]) (cl2 := 0) (sl2 := 0) dX2_seek_117 rfl lk_RX2_40 w_741 ⟨(Nat.le_of_ble_eq_true rfl), (Nat.le_of_ble_eq_true rfl)⟩ rfl rfl ⟨(Nat.le_of_ble_eq_true rfl), (Nat.le_of_ble_eq_true rfl)⟩ rfl (Nat.le_of_ble_eq_true rfl) rfl rfl rfl rfl (c_J9_floorMod_7cf53 g_q7) ?_
      refine vv_istore 122 (L' := [some (.ref a0), some (.ref a1), none, some (.int x3), some (.int x4), some (.int x5), some (.int x6), some (.int x7), some (.int q7)]) dX2_seek_120 rfl (Nat.le_of_ble_eq_true rfl) rfl ?_
      refine vv_aload_n 123 dX2_seek_122 rfl rfl ?_
      refine vv_aload_n 124 dX2_seek_123 rfl rfl ?_
      refine vv_iload 126 dX2_seek_124 rfl rfl ?_
      refine vv_iload 128 dX2_seek_126 rfl rfl ?_
      obtain ⟨q8, g_q8, hf⟩ := bind_s hf
      refine vv_callV 131 (st := []) (As := [.ref a1, .int x7, .int q7]) (stk2 := []) (cl2 := 0) (sl2 := 0) dX2_seek_128 rfl lk_RX2_46 w_745 w_13 rfl t_a0 ⟨(Nat.le_of_ble_eq_true rfl), (Nat.le_of_ble_eq_true rfl)⟩ rfl rfl ⟨(Nat.le_of_ble_eq_true rfl), (Nat.le_of_ble_eq_true rfl)⟩ rfl (Nat.le_of_ble_eq_true rfl) rfl rfl rfl rfl (c_X2_tryChange t_a0 t_a1 g_q8) ?_
      refine vv_aload_n 132 dX2_seek_131 rfl rfl ?_
      refine vv_aload_n 133 dX2_seek_132 rfl rfl ?_
      refine vv_iload 135 dX2_seek_133 rfl rfl ?_
      refine vv_iload 137 dX2_seek_135 rfl rfl ?_
      refine vv_sipush 140 (v := 251) dX2_seek_137 rfl (by decide) ?_
      refine vv_iadd 141 dX2_seek_140 rfl ?_
      obtain ⟨q9, g_q9, hf⟩ := bind_s hf
      refine vv_callV 144 (st := []) (As := [.ref a1, .int x7, .int (q7 + (251 : Int32))]) (stk2 := []) (cl2 := 0) (sl2 := 0) dX2_seek_141 rfl lk_RX2_46 w_745 w_13 rfl t_a0 ⟨(Nat.le_of_ble_eq_true rfl), (Nat.le_of_ble_eq_true rfl)⟩ rfl rfl ⟨(Nat.le_of_ble_eq_true rfl), (Nat.le_of_ble_eq_true rfl)⟩ rfl (Nat.le_of_ble_eq_true rfl) rfl rfl rfl rfl (c_X2_tryChange t_a0 t_a1 g_q9) ?_
      refine vv_iload 146 dX2_seek_144 rfl rfl ?_
      refine vv_bipush 148 (v := 31) dX2_seek_146 rfl (by decide) ?_
      refine vv_imul 149 dX2_seek_148 rfl ?_
      refine vv_sipush 152 (v := 251) dX2_seek_149 rfl (by decide) ?_
      refine vv_irem 153 dX2_seek_152 rfl (by decide) ?_
      obtain ⟨z10, e_z10, hf⟩ := bd_s hf
      refine vv_istoreE (q := 155) (v := z10) (L' := [some (.ref a0), some (.ref a1), none, some (.int x3), some (.int x4), some (.int x5), some (.int z10), some (.int x7), some (.int q7)]) e_z10 dX2_seek_153 rfl (Nat.le_of_ble_eq_true rfl) rfl ?_
      obtain ⟨z11, e_z11, hf⟩ := bd_s hf
      refine vv_iincE (q := 158) (v := z11) (c := 1) (L' := [some (.ref a0), some (.ref a1), none, some (.int x3), some (.int x4), some (.int x5), some (.int z10), some (.int z11), some (.int q7)]) e_z11 dX2_seek_155 rfl rfl (by decide) (Nat.le_of_ble_eq_true rfl) rfl ?_
      refine vv_goto 83 dX2_seek_158 (by decide) ?_
      exact VV.lle (hk83 _ _ _ _ _ _ hf) (lle_s (lle_s (lle_s (lle_s (lle_s (lle_s (lle_s (lle_s (lle_n lle_nil)))))))))

theorem v_X2_seek_83 {w : Wo} {K : Kn} {a0 : Nat} {a1 : Nat} {x2 : Int32} {q : (Int32 × Mem)} (t_a0 : K a0 = some (.inl 2)) (t_a1 : K a1 = some (.inl 0)) : ∀ (n : Nat) (m : Mem) (x3 : Int32) (x4 : Int32) (x5 : Int32) (x6 : Int32) (x7 : Int32), f_X2_seek_83 K a0 a1 x2 n m x3 x4 x5 x6 x7 = some q → VV w RX2 cX2_seek 9 (some .int) rm_X2_seek false (QM w K (some (.int q.1)) q.2 0 0) K 83 [some (.ref a0), some (.ref a1), none, some (.int x3), some (.int x4), some (.int x5), some (.int x6), some (.int x7), none] [] 0 0 m := by
  intro n
  induction n with
  | zero => intro m x3 x4 x5 x6 x7 hf; cases hf
  | succ n ih => intro m x3 x4 x5 x6 x7 hf; exact v_X2_seek_83B (a0 := a0) (a1 := a1) (x2 := x2) t_a0 t_a1 (f_X2_seek_83 K a0 a1 x2 n) ih hf

set_option maxHeartbeats 4000000 in
theorem v_X2_seek_57B {w : Wo} {K : Kn} {a0 : Nat} {a1 : Nat} {x2 : Int32} {q : (Int32 × Mem)} (t_a0 : K a0 = some (.inl 2)) (t_a1 : K a1 = some (.inl 0)) (k57 : Mem → Int32 → Int32 → Int32 → Int32 → Int32 → Option (Int32 × Mem)) (hk57 : ∀ (m : Mem) (x3 : Int32) (x4 : Int32) (x5 : Int32) (x6 : Int32) (x7 : Int32), k57 m x3 x4 x5 x6 x7 = some q → VV w RX2 cX2_seek 9 (some .int) rm_X2_seek false (QM w K (some (.int q.1)) q.2 0 0) K 57 [some (.ref a0), some (.ref a1), none, some (.int x3), some (.int x4), some (.int x5), some (.int x6), some (.int x7), none] [] 0 0 m) {m : Mem} {x3 : Int32} {x4 : Int32} {x5 : Int32} {x6 : Int32} {x7 : Int32} (hf : f_X2_seek_57B K a0 a1 x2 k57 m x3 x4 x5 x6 x7 = some q) : VV w RX2 cX2_seek 9 (some .int) rm_X2_seek false (QM w K (some (.int q.1)) q.2 0 0) K 57 [some (.ref a0), some (.ref a1), none, some (.int x3), some (.int x4), some (.int x5), some (.int x6), some (.int x7), none] [] 0 0 m := by
  unfold f_X2_seek_57B at hf
  refine vv_iload 59 dX2_seek_57 rfl rfl ?_
  refine vv_iload_n 60 dX2_seek_59 rfl rfl ?_
  refine vv_icmp_ge 80 63 dX2_seek_60 rfl (by decide) (fun c1 => ?_) (fun c1 => ?_)
  · rw [if_pos c1] at hf
    refine vv_iconst 81 (v := 0) dX2_seek_80 rfl (by decide) ?_
    refine vv_istore 83 (L' := [some (.ref a0), some (.ref a1), none, some (.int x3), some (.int x4), some (.int x5), some (.int x6), some (.int (0 : Int32)), none]) dX2_seek_81 rfl (Nat.le_of_ble_eq_true rfl) rfl ?_
    exact v_X2_seek_83 t_a0 t_a1 FU _ _ _ _ _ _ hf
  · rw [if_neg c1] at hf
    refine vv_iload 65 dX2_seek_63 rfl rfl ?_
    refine vv_bipush 67 (v := 81) dX2_seek_65 rfl (by decide) ?_
    refine vv_imul 68 dX2_seek_67 rfl ?_
    refine vv_sipush 71 (v := 251) dX2_seek_68 rfl (by decide) ?_
    refine vv_irem 72 dX2_seek_71 rfl (by decide) ?_
    obtain ⟨z2, e_z2, hf⟩ := bd_s hf
    refine vv_istoreE (q := 74) (v := z2) (L' := [some (.ref a0), some (.ref a1), none, some (.int x3), some (.int x4), some (.int x5), some (.int z2), some (.int x7), none]) e_z2 dX2_seek_72 rfl (Nat.le_of_ble_eq_true rfl) rfl ?_
    obtain ⟨z3, e_z3, hf⟩ := bd_s hf
    refine vv_iincE (q := 77) (v := z3) (c := 1) (L' := [some (.ref a0), some (.ref a1), none, some (.int x3), some (.int x4), some (.int x5), some (.int z2), some (.int z3), none]) e_z3 dX2_seek_74 rfl rfl (by decide) (Nat.le_of_ble_eq_true rfl) rfl ?_
    refine vv_goto 57 dX2_seek_77 (by decide) ?_
    exact hk57 _ _ _ _ _ _ hf

theorem v_X2_seek_57 {w : Wo} {K : Kn} {a0 : Nat} {a1 : Nat} {x2 : Int32} {q : (Int32 × Mem)} (t_a0 : K a0 = some (.inl 2)) (t_a1 : K a1 = some (.inl 0)) : ∀ (n : Nat) (m : Mem) (x3 : Int32) (x4 : Int32) (x5 : Int32) (x6 : Int32) (x7 : Int32), f_X2_seek_57 K a0 a1 x2 n m x3 x4 x5 x6 x7 = some q → VV w RX2 cX2_seek 9 (some .int) rm_X2_seek false (QM w K (some (.int q.1)) q.2 0 0) K 57 [some (.ref a0), some (.ref a1), none, some (.int x3), some (.int x4), some (.int x5), some (.int x6), some (.int x7), none] [] 0 0 m := by
  intro n
  induction n with
  | zero => intro m x3 x4 x5 x6 x7 hf; cases hf
  | succ n ih => intro m x3 x4 x5 x6 x7 hf; exact v_X2_seek_57B (a0 := a0) (a1 := a1) (x2 := x2) t_a0 t_a1 (f_X2_seek_57 K a0 a1 x2 n) ih hf

set_option maxHeartbeats 4000000 in
theorem v_X2_seek_0 {w : Wo} {K : Kn} {a0 : Nat} {a1 : Nat} {x2 : Int32} {q : (Int32 × Mem)} (t_a0 : K a0 = some (.inl 2)) (t_a1 : K a1 = some (.inl 0)) {m : Mem} (hf : f_X2_seek K a0 a1 x2 m = some q) : VV w RX2 cX2_seek 9 (some .int) rm_X2_seek false (QM w K (some (.int q.1)) q.2 0 0) K 0 [some (.ref a0), some (.ref a1), some (.int x2), none, none, none, none, none, none] [] 0 0 m := by
  unfold f_X2_seek at hf
  refine vv_aload_n 1 dX2_seek_0 rfl rfl ?_
  refine vv_iconst 2 (v := 0) dX2_seek_1 rfl (by decide) ?_
  obtain ⟨m1, e_m1, hf⟩ := bd_s hf
  refine pf_RX2_13 5 dX2_seek_2 rfl t_a0 e_m1 ?_
  refine vv_aload_n 6 dX2_seek_5 rfl rfl ?_
  refine vv_iload_n 7 dX2_seek_6 rfl rfl ?_
  obtain ⟨m2, e_m2, hf⟩ := bd_s hf
  refine pf_RX2_17 10 dX2_seek_7 rfl t_a0 e_m2 ?_
  refine vv_aload_n 11 dX2_seek_10 rfl rfl ?_
  refine gf_RX2_20 14 dX2_seek_11 rfl t_a1 ?_
  refine vv_if_eq 24 17 dX2_seek_14 rfl (by decide) (fun c3 => ?_) (fun c3 => ?_)
  · rw [if_pos c3] at hf
    refine vv_iconst 25 (v := 0) dX2_seek_24 rfl (by decide) ?_
    obtain rfl := Option.some.inj hf
    exact vv_iret dX2_seek_25 rfl
  · rw [if_neg c3] at hf
    refine vv_aload_n 18 dX2_seek_17 rfl rfl ?_
    refine gf_RX2_26 21 dX2_seek_18 rfl t_a1 ?_
    refine vv_if_ne 26 24 dX2_seek_21 rfl (by decide) (fun c4 => ?_) (fun c4 => ?_)
    · rw [if_pos c4] at hf
      refine vv_iconst 25 (v := 0) dX2_seek_24 rfl (by decide) ?_
      obtain rfl := Option.some.inj hf
      exact vv_iret dX2_seek_25 rfl
    · rw [if_neg c4] at hf
      refine vv_aload_n 27 dX2_seek_26 rfl rfl ?_
      refine gf_RX2_29 30 dX2_seek_27 rfl t_a1 ?_
      refine vv_iconst 31 (v := 1) dX2_seek_30 rfl (by decide) ?_
      refine vv_isub 32 dX2_seek_31 rfl ?_
      obtain ⟨z5, e_z5, hf⟩ := bd_s hf
      refine vv_istore_nE (q := 33) (v := z5) (L' := [some (.ref a0), some (.ref a1), some (.int x2), some (.int z5), none, none, none, none, none]) e_z5 dX2_seek_32 rfl (Nat.le_of_ble_eq_true rfl) rfl ?_
      refine vv_aload_n 34 dX2_seek_33 rfl rfl ?_
      refine vv_iload_n 35 dX2_seek_34 rfl rfl ?_
      obtain ⟨q6, g_q6, hf⟩ := bind_s hf
      refine vv_callV 38 (st := []) (As := [.int z5]) (stk2 := [.int q6]) (cl2 := 0) (sl2 := 0) dX2_seek_35 rfl lk_RX2_32 w_551 w_552 rfl t_a1 ⟨(Nat.le_of_ble_eq_true rfl), (Nat.le_of_ble_eq_true rfl)⟩ rfl rfl ⟨(Nat.le_of_ble_eq_true rfl), (Nat.le_of_ble_eq_true rfl)⟩ rfl (Nat.le_of_ble_eq_true rfl) rfl rfl rfl rfl (c_X0_checkOf t_a1 g_q6) ?_
      refine vv_istore 40 (L' := [some (.ref a0), some (.ref a1), some (.int x2), some (.int z5), some (.int q6), none, none, none, none]) dX2_seek_38 rfl (Nat.le_of_ble_eq_true rfl) rfl ?_
      refine vv_aload_n 41 dX2_seek_40 rfl rfl ?_
      obtain ⟨b7, g_b7, hf⟩ := bind_s hf
      have t_b7 := (ldA_spec g_b7).2
      refine gf_RX2_36 44 dX2_seek_41 rfl t_a1 (ldA_spec g_b7).1 ?_
      refine vv_iload_n 45 dX2_seek_44 rfl rfl ?_
      obtain ⟨r8, g_r8, hf⟩ := bind_s hf
      refine vv_iald 46 dX2_seek_45 rfl t_b7 g_r8 ?_
      refine vv_iload 48 dX2_seek_46 rfl rfl ?_
      refine vv_isub 49 dX2_seek_48 rfl ?_
      obtain ⟨z9, e_z9, hf⟩ := bd_s hf
      refine vv_istoreE (q := 51) (v := z9) (L' := [some (.ref a0), some (.ref a1), some (.int x2), some (.int z5), some (.int q6), some (.int z9), none, none, none]) e_z9 dX2_seek_49 rfl (Nat.le_of_ble_eq_true rfl) rfl ?_
      refine vv_iconst 52 (v := 1) dX2_seek_51 rfl (by decide) ?_
      refine vv_istore 54 (L' := [some (.ref a0), some (.ref a1), some (.int x2), some (.int z5), some (.int q6), some (.int z9), some (.int (1 : Int32)), none, none]) dX2_seek_52 rfl (Nat.le_of_ble_eq_true rfl) rfl ?_
      refine vv_iconst 55 (v := 1) dX2_seek_54 rfl (by decide) ?_
      refine vv_istore 57 (L' := [some (.ref a0), some (.ref a1), some (.int x2), some (.int z5), some (.int q6), some (.int z9), some (.int (1 : Int32)), some (.int (1 : Int32)), none]) dX2_seek_55 rfl (Nat.le_of_ble_eq_true rfl) rfl ?_
      exact VV.lle (v_X2_seek_57 t_a0 t_a1 FU _ _ _ _ _ _ hf) (lle_s (lle_s (lle_n (lle_s (lle_s (lle_s (lle_s (lle_s (lle_s lle_nil)))))))))

theorem c_X2_seek {w : Wo} {K : Kn} {a0 : Nat} {a1 : Nat} {x2 : Int32} {q : (Int32 × Mem)} {m : Mem} (t_a0 : K a0 = some (.inl 2)) (t_a1 : K a1 = some (.inl 0)) (hf : F_X2_seek K m a0 a1 x2 = some q) : MM w K K yX2_seek cX2_seek 9 (some .int) rm_X2_seek [.ref a0, .ref a1, .int x2] m (some (.int q.1)) q.2 0 0 :=
  mm_of (ini := false) (n := 6) (plainFor_of_name (by decide)) rfl (fun h => by first | rfl | cases h) (Nat.le_of_ble_eq_true rfl) rfl (v_X2_seek_0 t_a0 t_a1 hf)

set_option maxHeartbeats 4000000 in
theorem v_X8_mends_0 {w : Wo} {K : Kn} {a0 : Nat} {x1 : Int32} {x2 : Int32} {q : (Int32 × Mem)} (t_a0 : K a0 = some (.inl 7)) {m : Mem} (hf : f_X8_mends K a0 x1 x2 m = some q) : VV w RX8 cX8_mends 4 (some .int) rm_X8_mends false (QM w K (some (.int q.1)) q.2 0 0) K 0 [some (.ref a0), some (.int x1), some (.int x2), none] [] 0 0 m := by
  unfold f_X8_mends at hf
  refine vv_aload_n 1 dX8_mends_0 rfl rfl ?_
  refine vv_iload_n 2 dX8_mends_1 rfl rfl ?_
  refine vv_iload_n 3 dX8_mends_2 rfl rfl ?_
  obtain ⟨q1, g_q1, hf⟩ := bind_s hf
  refine vv_callV 6 (st := []) (As := [.int x1, .int x2]) (stk2 := [va_rf q1]) (cl2 := 0) (sl2 := 0) dX8_mends_3 rfl lk_RX8_122 w_595 w_4 rfl t_a0 ⟨(Nat.le_of_ble_eq_true rfl), (Nat.le_of_ble_eq_true rfl)⟩ rfl rfl ⟨(Nat.le_of_ble_eq_true rfl), (Nat.le_of_ble_eq_true rfl)⟩ rfl (Nat.le_of_ble_eq_true rfl) rfl rfl rfl rfl (c_X8_blockOf t_a0 g_q1) ?_
  rcases caseO_s hf with ⟨ho, hf⟩ | ⟨b2, ho, hf⟩
  · subst ho
    refine vv_astore_nN 7 (L' := [some (.ref a0), some (.int x1), some (.int x2), some (.null)]) dX8_mends_6 rfl (Nat.le_of_ble_eq_true rfl) rfl ?_
    refine vv_aload_nN 8 dX8_mends_7 rfl rfl ?_
    refine vv_ifnonnullN 11 dX8_mends_8 rfl ?_
    refine vv_bipush 13 (v := (-2)) dX8_mends_11 rfl (by decide) ?_
    refine vv_goto 25 dX8_mends_13 (by decide) ?_
    obtain rfl := Option.some.inj hf
    exact vv_iret dX8_mends_25 rfl
  · subst ho
    obtain ⟨t_b2, hf⟩ := gd_s hf
    refine vv_astore_n 7 (L' := [some (.ref a0), some (.int x1), some (.int x2), some (.ref b2)]) dX8_mends_6 rfl (Nat.le_of_ble_eq_true rfl) rfl ?_
    refine vv_aload_n 8 dX8_mends_7 rfl rfl ?_
    refine vv_ifnonnull 16 dX8_mends_8 (by decide) ?_
    refine vv_aload_n 17 dX8_mends_16 rfl rfl ?_
    obtain ⟨b3, g_b3, hf⟩ := bind_s hf
    have t_b3 := (ldO_spec g_b3).2
    refine gf_RX8_60 20 dX8_mends_17 rfl t_a0 (ldO_spec g_b3).1 ?_
    refine vv_aload_n 21 dX8_mends_20 rfl rfl ?_
    refine vv_iconst 22 (v := (-1)) dX8_mends_21 rfl (by decide) ?_
    obtain ⟨q4, g_q4, hf⟩ := bind_s hf
    refine vv_callV 25 (st := []) (As := [.ref b2, .int (-1 : Int32)]) (stk2 := [.int q4.1]) (cl2 := 0) (sl2 := 0) dX8_mends_22 rfl lk_RX8_195 w_736 w_737 rfl t_b3 ⟨(Nat.le_of_ble_eq_true rfl), (Nat.le_of_ble_eq_true rfl)⟩ rfl rfl ⟨(Nat.le_of_ble_eq_true rfl), (Nat.le_of_ble_eq_true rfl)⟩ rfl (Nat.le_of_ble_eq_true rfl) rfl rfl rfl rfl (c_X2_seek t_b3 t_b2 g_q4) ?_
    obtain rfl := Option.some.inj hf
    exact vv_iret dX8_mends_25 rfl

theorem c_X8_mends {w : Wo} {K : Kn} {a0 : Nat} {x1 : Int32} {x2 : Int32} {q : (Int32 × Mem)} {m : Mem} (t_a0 : K a0 = some (.inl 7)) (hf : F_X8_mends K m a0 x1 x2 = some q) : MM w K K yX8_mends cX8_mends 4 (some .int) rm_X8_mends [.ref a0, .int x1, .int x2] m (some (.int q.1)) q.2 0 0 :=
  mm_of (ini := false) (n := 1) (plainFor_of_name (by decide)) rfl (fun h => by first | rfl | cases h) (Nat.le_of_ble_eq_true rfl) rfl (v_X8_mends_0 t_a0 hf)

set_option maxHeartbeats 4000000 in
theorem v_X8_mend_0 {w : Wo} {K : Kn} {a0 : Nat} {x1 : Int32} {x2 : Int32} {x3 : Int32} {x4 : Int32} {q : (Int32 × Mem)} (t_a0 : K a0 = some (.inl 7)) {m : Mem} (hf : f_X8_mend K a0 x1 x2 x3 x4 m = some q) : VV w RX8 cX8_mend 6 (some .int) rm_X8_mend false (QM w K (some (.int q.1)) q.2 0 0) K 0 [some (.ref a0), some (.int x1), some (.int x2), some (.int x3), some (.int x4), none] [] 0 0 m := by
  unfold f_X8_mend at hf
  refine vv_aload_n 1 dX8_mend_0 rfl rfl ?_
  refine vv_iload_n 2 dX8_mend_1 rfl rfl ?_
  refine vv_iload_n 3 dX8_mend_2 rfl rfl ?_
  obtain ⟨q1, g_q1, hf⟩ := bind_s hf
  refine vv_callV 6 (st := []) (As := [.int x1, .int x2]) (stk2 := [va_rf q1]) (cl2 := 0) (sl2 := 0) dX8_mend_3 rfl lk_RX8_122 w_595 w_4 rfl t_a0 ⟨(Nat.le_of_ble_eq_true rfl), (Nat.le_of_ble_eq_true rfl)⟩ rfl rfl ⟨(Nat.le_of_ble_eq_true rfl), (Nat.le_of_ble_eq_true rfl)⟩ rfl (Nat.le_of_ble_eq_true rfl) rfl rfl rfl rfl (c_X8_blockOf t_a0 g_q1) ?_
  rcases caseO_s hf with ⟨ho, hf⟩ | ⟨b2, ho, hf⟩
  · subst ho
    refine vv_astoreN 8 (L' := [some (.ref a0), some (.int x1), some (.int x2), some (.int x3), some (.int x4), some (.null)]) dX8_mend_6 rfl (Nat.le_of_ble_eq_true rfl) rfl ?_
    refine vv_aloadN 10 dX8_mend_8 rfl rfl ?_
    refine vv_ifnullN 24 dX8_mend_10 (by decide) ?_
    refine vv_bipush 26 (v := (-2)) dX8_mend_24 rfl (by decide) ?_
    obtain rfl := Option.some.inj hf
    exact vv_iret dX8_mend_26 rfl
  · subst ho
    obtain ⟨t_b2, hf⟩ := gd_s hf
    refine vv_astore 8 (L' := [some (.ref a0), some (.int x1), some (.int x2), some (.int x3), some (.int x4), some (.ref b2)]) dX8_mend_6 rfl (Nat.le_of_ble_eq_true rfl) rfl ?_
    refine vv_aload 10 dX8_mend_8 rfl rfl ?_
    refine vv_ifnull 13 dX8_mend_10 rfl ?_
    refine vv_iload 15 dX8_mend_13 rfl rfl ?_
    refine vv_if_lt 24 18 dX8_mend_15 rfl (by decide) (fun c3 => ?_) (fun c3 => ?_)
    · rw [if_pos c3] at hf
      refine vv_bipush 26 (v := (-2)) dX8_mend_24 rfl (by decide) ?_
      obtain rfl := Option.some.inj hf
      exact vv_iret dX8_mend_26 rfl
    · rw [if_neg c3] at hf
      refine vv_iload 20 dX8_mend_18 rfl rfl ?_
      refine vv_iconst 21 (v := 1) dX8_mend_20 rfl (by decide) ?_
      refine vv_icmp_le 27 24 dX8_mend_21 rfl (by decide) (fun c4 => ?_) (fun c4 => ?_)
      · rw [if_pos c4] at hf
        refine vv_iload_n 28 dX8_mend_27 rfl rfl ?_
        refine vv_if_lt 45 31 dX8_mend_28 rfl (by decide) (fun c5 => ?_) (fun c5 => ?_)
        · rw [if_pos c5] at hf
          refine vv_iconst 46 (v := (-1)) dX8_mend_45 rfl (by decide) ?_
          obtain rfl := Option.some.inj hf
          exact vv_iret dX8_mend_46 rfl
        · rw [if_neg c5] at hf
          refine vv_aload_n 32 dX8_mend_31 rfl rfl ?_
          obtain ⟨b6, g_b6, hf⟩ := bind_s hf
          have t_b6 := (ldO_spec g_b6).2
          refine gf_RX8_60 35 dX8_mend_32 rfl t_a0 (ldO_spec g_b6).1 ?_
          refine vv_aload 37 dX8_mend_35 rfl rfl ?_
          refine vv_iload_n 38 dX8_mend_37 rfl rfl ?_
          obtain ⟨q7, g_q7, hf⟩ := bind_s hf
          refine vv_callV 41 (st := []) (As := [.ref b2, .int x3]) (stk2 := [.int q7.1]) (cl2 := 0) (sl2 := 0) dX8_mend_38 rfl lk_RX8_195 w_736 w_737 rfl t_b6 ⟨(Nat.le_of_ble_eq_true rfl), (Nat.le_of_ble_eq_true rfl)⟩ rfl rfl ⟨(Nat.le_of_ble_eq_true rfl), (Nat.le_of_ble_eq_true rfl)⟩ rfl (Nat.le_of_ble_eq_true rfl) rfl rfl rfl rfl (c_X2_seek t_b6 t_b2 g_q7) ?_
          refine vv_iload_n 42 dX8_mend_41 rfl rfl ?_
          refine vv_icmp_gt 47 45 dX8_mend_42 rfl (by decide) (fun c8 => ?_) (fun c8 => ?_)
          · rw [if_pos c8] at hf
            refine vv_iload 49 dX8_mend_47 rfl rfl ?_
            refine vv_if_ne 62 52 dX8_mend_49 rfl (by decide) (fun c9 => ?_) (fun c9 => ?_)
            · rw [if_pos c9] at hf
              refine vv_aload_n 53 dX8_mend_52 rfl rfl ?_
              obtain ⟨b10, g_b10, hf⟩ := bind_s hf
              have t_b10 := (ldO_spec g_b10).2
              refine gf_RX8_60 56 dX8_mend_53 rfl t_a0 (ldO_spec g_b10).1 ?_
              refine gf_RX8_199 59 dX8_mend_56 rfl t_b10 ?_
              refine vv_goto 69 dX8_mend_59 (by decide) ?_
              obtain rfl := Option.some.inj hf
              exact vv_iret dX8_mend_69 rfl
            · rw [if_neg c9] at hf
              refine vv_aload_n 63 dX8_mend_62 rfl rfl ?_
              obtain ⟨b11, g_b11, hf⟩ := bind_s hf
              have t_b11 := (ldO_spec g_b11).2
              refine gf_RX8_60 66 dX8_mend_63 rfl t_a0 (ldO_spec g_b11).1 ?_
              refine gf_RX8_202 69 dX8_mend_66 rfl t_b11 ?_
              obtain rfl := Option.some.inj hf
              exact vv_iret dX8_mend_69 rfl
          · rw [if_neg c8] at hf
            refine vv_iconst 46 (v := (-1)) dX8_mend_45 rfl (by decide) ?_
            obtain rfl := Option.some.inj hf
            exact vv_iret dX8_mend_46 rfl
      · rw [if_neg c4] at hf
        refine vv_bipush 26 (v := (-2)) dX8_mend_24 rfl (by decide) ?_
        obtain rfl := Option.some.inj hf
        exact vv_iret dX8_mend_26 rfl

theorem c_X8_mend {w : Wo} {K : Kn} {a0 : Nat} {x1 : Int32} {x2 : Int32} {x3 : Int32} {x4 : Int32} {q : (Int32 × Mem)} {m : Mem} (t_a0 : K a0 = some (.inl 7)) (hf : F_X8_mend K m a0 x1 x2 x3 x4 = some q) : MM w K K yX8_mend cX8_mend 6 (some .int) rm_X8_mend [.ref a0, .int x1, .int x2, .int x3, .int x4] m (some (.int q.1)) q.2 0 0 :=
  mm_of (ini := false) (n := 1) (plainFor_of_name (by decide)) rfl (fun h => by first | rfl | cases h) (Nat.le_of_ble_eq_true rfl) rfl (v_X8_mend_0 t_a0 hf)

set_option maxHeartbeats 4000000 in
theorem v_X8_seals_0 {w : Wo} {K : Kn} {a0 : Nat} {x1 : Int32} {q : (Int32 × Mem)} (t_a0 : K a0 = some (.inl 7)) {m : Mem} (hf : f_X8_seals K a0 x1 m = some q) : VV w RX8 cX8_seals 3 (some .int) rm_X8_seals false (QM w K (some (.int q.1)) q.2 0 0) K 0 [some (.ref a0), some (.int x1), none] [] 0 0 m := by
  unfold f_X8_seals at hf
  refine vv_aload_n 1 dX8_seals_0 rfl rfl ?_
  refine vv_iload_n 2 dX8_seals_1 rfl rfl ?_
  obtain ⟨q1, g_q1, hf⟩ := bind_s hf
  refine vv_callV 5 (st := []) (As := [.int x1]) (stk2 := [.int q1]) (cl2 := 0) (sl2 := 0) dX8_seals_2 rfl lk_RX8_81 w_469 w_0 rfl t_a0 ⟨(Nat.le_of_ble_eq_true rfl), (Nat.le_of_ble_eq_true rfl)⟩ rfl rfl ⟨(Nat.le_of_ble_eq_true rfl), (Nat.le_of_ble_eq_true rfl)⟩ rfl (Nat.le_of_ble_eq_true rfl) rfl rfl rfl rfl (c_X8_isNone t_a0 g_q1) ?_
  refine vv_if_eq 11 8 dX8_seals_5 rfl (by decide) (fun c2 => ?_) (fun c2 => ?_)
  · rw [if_pos c2] at hf
    refine vv_aload_n 12 dX8_seals_11 rfl rfl ?_
    obtain ⟨b3, g_b3, hf⟩ := bind_s hf
    have t_b3 := (ldA_spec g_b3).2
    refine gf_RX8_11 15 dX8_seals_12 rfl t_a0 (ldA_spec g_b3).1 ?_
    refine vv_iload_n 16 dX8_seals_15 rfl rfl ?_
    obtain ⟨b4, g_b4, hf⟩ := bind_s hf
    have t_b4 := (alO_spec g_b4).2
    refine vv_aald3 17 dX8_seals_16 rfl t_b3 g_b4 ?_
    obtain ⟨q5, g_q5, hf⟩ := bind_s hf
    refine vv_callV 20 (st := []) (As := []) (stk2 := [va_rf q5]) (cl2 := 0) (sl2 := 0) dX8_seals_17 rfl lk_RX8_114 w_484 w_485 rfl t_b4 ⟨(Nat.le_of_ble_eq_true rfl), (Nat.le_of_ble_eq_true rfl)⟩ rfl rfl ⟨(Nat.le_of_ble_eq_true rfl), (Nat.le_of_ble_eq_true rfl)⟩ rfl (Nat.le_of_ble_eq_true rfl) rfl rfl rfl rfl (c_X7_openBlock t_b4 g_q5) ?_
    rcases caseO_s hf with ⟨ho, hf⟩ | ⟨b6, ho, hf⟩
    · subst ho
      refine vv_astore_nN 21 (L' := [some (.ref a0), some (.int x1), some (.null)]) dX8_seals_20 rfl (Nat.le_of_ble_eq_true rfl) rfl ?_
      refine vv_aload_nN 22 dX8_seals_21 rfl rfl ?_
      refine vv_ifnonnullN 25 dX8_seals_22 rfl ?_
      refine vv_bipush 27 (v := (-5)) dX8_seals_25 rfl (by decide) ?_
      obtain rfl := Option.some.inj hf
      exact vv_iret dX8_seals_27 rfl
    · subst ho
      obtain ⟨t_b6, hf⟩ := gd_s hf
      refine vv_astore_n 21 (L' := [some (.ref a0), some (.int x1), some (.ref b6)]) dX8_seals_20 rfl (Nat.le_of_ble_eq_true rfl) rfl ?_
      refine vv_aload_n 22 dX8_seals_21 rfl rfl ?_
      refine vv_ifnonnull 28 dX8_seals_22 (by decide) ?_
      refine vv_aload_n 29 dX8_seals_28 rfl rfl ?_
      obtain ⟨q7, g_q7, hf⟩ := bind_s hf
      refine vv_callV 32 (st := []) (As := []) (stk2 := []) (cl2 := 0) (sl2 := 0) dX8_seals_29 rfl lk_RX8_118 w_547 w_548 rfl t_b6 ⟨(Nat.le_of_ble_eq_true rfl), (Nat.le_of_ble_eq_true rfl)⟩ rfl rfl ⟨(Nat.le_of_ble_eq_true rfl), (Nat.le_of_ble_eq_true rfl)⟩ rfl (Nat.le_of_ble_eq_true rfl) rfl rfl rfl rfl (c_X0_close t_b6 g_q7) ?_
      refine vv_aload_n 33 dX8_seals_32 rfl rfl ?_
      refine gf_RX8_121 36 dX8_seals_33 rfl t_b6 ?_
      obtain rfl := Option.some.inj hf
      exact vv_iret dX8_seals_36 rfl
  · rw [if_neg c2] at hf
    refine vv_bipush 10 (v := (-2)) dX8_seals_8 rfl (by decide) ?_
    obtain rfl := Option.some.inj hf
    exact vv_iret dX8_seals_10 rfl

theorem c_X8_seals {w : Wo} {K : Kn} {a0 : Nat} {x1 : Int32} {q : (Int32 × Mem)} {m : Mem} (t_a0 : K a0 = some (.inl 7)) (hf : F_X8_seals K m a0 x1 = some q) : MM w K K yX8_seals cX8_seals 3 (some .int) rm_X8_seals [.ref a0, .int x1] m (some (.int q.1)) q.2 0 0 :=
  mm_of (ini := false) (n := 1) (plainFor_of_name (by decide)) rfl (fun h => by first | rfl | cases h) (Nat.le_of_ble_eq_true rfl) rfl (v_X8_seals_0 t_a0 hf)

set_option maxHeartbeats 4000000 in
theorem v_X7_remove_9B {w : Wo} {K : Kn} {a0 : Nat} {x1 : Int32} {q : (Int32 × Mem)} (t_a0 : K a0 = some (.inl 6)) (k9 : Mem → Nat → Int32 → Option (Int32 × Mem)) (hk9 : ∀ (m : Mem) (a2 : Nat) (x3 : Int32), K a2 = some (.inl 0) → k9 m a2 x3 = some q → VV w RX7 cX7_remove 4 (some .int) rm_X7_remove false (QM w K (some (.int q.1)) q.2 0 0) K 9 [some (.ref a0), none, some (.ref a2), some (.int x3)] [] 0 0 m) {m : Mem} {a2 : Nat} {x3 : Int32} (t_a2 : K a2 = some (.inl 0)) (hf : f_X7_remove_9B K a0 x1 k9 m a2 x3 = some q) : VV w RX7 cX7_remove 4 (some .int) rm_X7_remove false (QM w K (some (.int q.1)) q.2 0 0) K 9 [some (.ref a0), none, some (.ref a2), some (.int x3)] [] 0 0 m := by
  unfold f_X7_remove_9B at hf
  refine vv_iload_n 10 dX7_remove_9 rfl rfl ?_
  refine vv_aload_n 11 dX7_remove_10 rfl rfl ?_
  refine gf_RX7_45 14 dX7_remove_11 rfl t_a0 ?_
  refine vv_iconst 15 (v := 1) dX7_remove_14 rfl (by decide) ?_
  refine vv_isub 16 dX7_remove_15 rfl ?_
  refine vv_icmp_ge 39 19 dX7_remove_16 rfl (by decide) (fun c1 => ?_) (fun c1 => ?_)
  · rw [if_pos c1] at hf
    refine vv_aload_n 40 dX7_remove_39 rfl rfl ?_
    obtain ⟨b2, g_b2, hf⟩ := bind_s hf
    have t_b2 := (ldA_spec g_b2).2
    refine gf_RX7_11 43 dX7_remove_40 rfl t_a0 (ldA_spec g_b2).1 ?_
    refine vv_aload_n 44 dX7_remove_43 rfl rfl ?_
    refine gf_RX7_45 47 dX7_remove_44 rfl t_a0 ?_
    refine vv_iconst 48 (v := 1) dX7_remove_47 rfl (by decide) ?_
    refine vv_isub 49 dX7_remove_48 rfl ?_
    refine vv_aload_n 50 dX7_remove_49 rfl rfl ?_
    obtain ⟨m3, g_m3, hf⟩ := bind_s hf
    refine vv_aast4 51 dX7_remove_50 rfl t_b2 t_a2 g_m3 ?_
    refine vv_aload_n 52 dX7_remove_51 rfl rfl ?_
    refine vv_dup 53 dX7_remove_52 rfl rfl ?_
    refine gf_RX7_45 56 dX7_remove_53 rfl t_a0 ?_
    refine vv_iconst 57 (v := 1) dX7_remove_56 rfl (by decide) ?_
    refine vv_isub 58 dX7_remove_57 rfl ?_
    obtain ⟨m4, e_m4, hf⟩ := bd_s hf
    refine pf_RX7_45 61 dX7_remove_58 rfl t_a0 e_m4 ?_
    refine vv_aload_n 62 dX7_remove_61 rfl rfl ?_
    refine gf_RX7_45 65 dX7_remove_62 rfl t_a0 ?_
    obtain rfl := Option.some.inj hf
    exact vv_iret dX7_remove_65 rfl
  · rw [if_neg c1] at hf
    refine vv_aload_n 20 dX7_remove_19 rfl rfl ?_
    obtain ⟨b5, g_b5, hf⟩ := bind_s hf
    have t_b5 := (ldA_spec g_b5).2
    refine gf_RX7_11 23 dX7_remove_20 rfl t_a0 (ldA_spec g_b5).1 ?_
    refine vv_iload_n 24 dX7_remove_23 rfl rfl ?_
    refine vv_aload_n 25 dX7_remove_24 rfl rfl ?_
    obtain ⟨b6, g_b6, hf⟩ := bind_s hf
    have t_b6 := (ldA_spec g_b6).2
    refine gf_RX7_11 28 dX7_remove_25 rfl t_a0 (ldA_spec g_b6).1 ?_
    refine vv_iload_n 29 dX7_remove_28 rfl rfl ?_
    refine vv_iconst 30 (v := 1) dX7_remove_29 rfl (by decide) ?_
    refine vv_iadd 31 dX7_remove_30 rfl ?_
    obtain ⟨b7, g_b7, hf⟩ := bind_s hf
    have t_b7 := (alO_spec g_b7).2
    refine vv_aald4 32 dX7_remove_31 rfl t_b6 g_b7 ?_
    obtain ⟨m8, g_m8, hf⟩ := bind_s hf
    refine vv_aast4 33 dX7_remove_32 rfl t_b5 t_b7 g_m8 ?_
    obtain ⟨z9, e_z9, hf⟩ := bd_s hf
    refine vv_iincE (q := 36) (v := z9) (c := 1) (L' := [some (.ref a0), none, some (.ref a2), some (.int z9)]) e_z9 dX7_remove_33 rfl rfl (by decide) (Nat.le_of_ble_eq_true rfl) rfl ?_
    refine vv_goto 9 dX7_remove_36 (by decide) ?_
    exact hk9 _ _ _ t_a2 hf

theorem v_X7_remove_9 {w : Wo} {K : Kn} {a0 : Nat} {x1 : Int32} {q : (Int32 × Mem)} (t_a0 : K a0 = some (.inl 6)) : ∀ (n : Nat) (m : Mem) (a2 : Nat) (x3 : Int32), K a2 = some (.inl 0) → f_X7_remove_9 K a0 x1 n m a2 x3 = some q → VV w RX7 cX7_remove 4 (some .int) rm_X7_remove false (QM w K (some (.int q.1)) q.2 0 0) K 9 [some (.ref a0), none, some (.ref a2), some (.int x3)] [] 0 0 m := by
  intro n
  induction n with
  | zero => intro m a2 x3 t_a2 hf; cases hf
  | succ n ih => intro m a2 x3 t_a2 hf; exact v_X7_remove_9B (a0 := a0) (x1 := x1) t_a0 (f_X7_remove_9 K a0 x1 n) ih t_a2 hf

set_option maxHeartbeats 4000000 in
theorem v_X7_remove_0 {w : Wo} {K : Kn} {a0 : Nat} {x1 : Int32} {q : (Int32 × Mem)} (t_a0 : K a0 = some (.inl 6)) {m : Mem} (hf : f_X7_remove K a0 x1 m = some q) : VV w RX7 cX7_remove 4 (some .int) rm_X7_remove false (QM w K (some (.int q.1)) q.2 0 0) K 0 [some (.ref a0), some (.int x1), none, none] [] 0 0 m := by
  unfold f_X7_remove at hf
  refine vv_aload_n 1 dX7_remove_0 rfl rfl ?_
  obtain ⟨b1, g_b1, hf⟩ := bind_s hf
  have t_b1 := (ldA_spec g_b1).2
  refine gf_RX7_11 4 dX7_remove_1 rfl t_a0 (ldA_spec g_b1).1 ?_
  refine vv_iload_n 5 dX7_remove_4 rfl rfl ?_
  obtain ⟨b2, g_b2, hf⟩ := bind_s hf
  have t_b2 := (alO_spec g_b2).2
  refine vv_aald4 6 dX7_remove_5 rfl t_b1 g_b2 ?_
  refine vv_astore_n 7 (L' := [some (.ref a0), some (.int x1), some (.ref b2), none]) dX7_remove_6 rfl (Nat.le_of_ble_eq_true rfl) rfl ?_
  refine vv_iload_n 8 dX7_remove_7 rfl rfl ?_
  refine vv_istore_n 9 (L' := [some (.ref a0), some (.int x1), some (.ref b2), some (.int x1)]) dX7_remove_8 rfl (Nat.le_of_ble_eq_true rfl) rfl ?_
  exact VV.lle (v_X7_remove_9 t_a0 FU _ _ _ t_b2 hf) (lle_s (lle_n (lle_s (lle_s lle_nil))))

theorem c_X7_remove {w : Wo} {K : Kn} {a0 : Nat} {x1 : Int32} {q : (Int32 × Mem)} {m : Mem} (t_a0 : K a0 = some (.inl 6)) (hf : F_X7_remove K m a0 x1 = some q) : MM w K K yX7_remove cX7_remove 4 (some .int) rm_X7_remove [.ref a0, .int x1] m (some (.int q.1)) q.2 0 0 :=
  mm_of (ini := false) (n := 2) (plainFor_of_name (by decide)) rfl (fun h => by first | rfl | cases h) (Nat.le_of_ble_eq_true rfl) rfl (v_X7_remove_0 t_a0 hf)

set_option maxHeartbeats 4000000 in
theorem v_X8_drops_0 {w : Wo} {K : Kn} {a0 : Nat} {x1 : Int32} {x2 : Int32} {q : (Int32 × Mem)} (t_a0 : K a0 = some (.inl 7)) {m : Mem} (hf : f_X8_drops K a0 x1 x2 m = some q) : VV w RX8 cX8_drops 3 (some .int) rm_X8_drops false (QM w K (some (.int q.1)) q.2 0 0) K 0 [some (.ref a0), some (.int x1), some (.int x2)] [] 0 0 m := by
  unfold f_X8_drops at hf
  refine vv_aload_n 1 dX8_drops_0 rfl rfl ?_
  refine vv_iload_n 2 dX8_drops_1 rfl rfl ?_
  refine vv_iload_n 3 dX8_drops_2 rfl rfl ?_
  obtain ⟨q1, g_q1, hf⟩ := bind_s hf
  refine vv_callV 6 (st := []) (As := [.int x1, .int x2]) (stk2 := [va_rf q1]) (cl2 := 0) (sl2 := 0) dX8_drops_3 rfl lk_RX8_122 w_595 w_4 rfl t_a0 ⟨(Nat.le_of_ble_eq_true rfl), (Nat.le_of_ble_eq_true rfl)⟩ rfl rfl ⟨(Nat.le_of_ble_eq_true rfl), (Nat.le_of_ble_eq_true rfl)⟩ rfl (Nat.le_of_ble_eq_true rfl) rfl rfl rfl rfl (c_X8_blockOf t_a0 g_q1) ?_
  rcases caseO_s hf with ⟨ho, hf⟩ | ⟨b2, ho, hf⟩
  · subst ho
    refine vv_ifnonnullN 9 dX8_drops_6 rfl ?_
    refine vv_bipush 11 (v := (-2)) dX8_drops_9 rfl (by decide) ?_
    obtain rfl := Option.some.inj hf
    exact vv_iret dX8_drops_11 rfl
  · subst ho
    obtain ⟨t_b2, hf⟩ := gd_s hf
    refine vv_ifnonnull 12 dX8_drops_6 (by decide) ?_
    refine vv_aload_n 13 dX8_drops_12 rfl rfl ?_
    obtain ⟨b3, g_b3, hf⟩ := bind_s hf
    have t_b3 := (ldA_spec g_b3).2
    refine gf_RX8_11 16 dX8_drops_13 rfl t_a0 (ldA_spec g_b3).1 ?_
    refine vv_iload_n 17 dX8_drops_16 rfl rfl ?_
    obtain ⟨b4, g_b4, hf⟩ := bind_s hf
    have t_b4 := (alO_spec g_b4).2
    refine vv_aald3 18 dX8_drops_17 rfl t_b3 g_b4 ?_
    refine vv_iload_n 19 dX8_drops_18 rfl rfl ?_
    obtain ⟨q5, g_q5, hf⟩ := bind_s hf
    refine vv_callV 22 (st := []) (As := [.int x2]) (stk2 := [.int q5.1]) (cl2 := 0) (sl2 := 0) dX8_drops_19 rfl lk_RX8_126 w_598 w_599 rfl t_b4 ⟨(Nat.le_of_ble_eq_true rfl), (Nat.le_of_ble_eq_true rfl)⟩ rfl rfl ⟨(Nat.le_of_ble_eq_true rfl), (Nat.le_of_ble_eq_true rfl)⟩ rfl (Nat.le_of_ble_eq_true rfl) rfl rfl rfl rfl (c_X7_remove t_b4 g_q5) ?_
    obtain rfl := Option.some.inj hf
    exact vv_iret dX8_drops_22 rfl

theorem c_X8_drops {w : Wo} {K : Kn} {a0 : Nat} {x1 : Int32} {x2 : Int32} {q : (Int32 × Mem)} {m : Mem} (t_a0 : K a0 = some (.inl 7)) (hf : F_X8_drops K m a0 x1 x2 = some q) : MM w K K yX8_drops cX8_drops 3 (some .int) rm_X8_drops [.ref a0, .int x1, .int x2] m (some (.int q.1)) q.2 0 0 :=
  mm_of (ini := false) (n := 0) (plainFor_of_name (by decide)) rfl (fun h => by first | rfl | cases h) (Nat.le_of_ble_eq_true rfl) rfl (v_X8_drops_0 t_a0 hf)

set_option maxHeartbeats 4000000 in
theorem v_X5_countBelow_32 {w : Wo} {K : Kn} {a0 : Nat} {x1 : Int64} {q : Int32} {m : Mem} (t_a0 : K a0 = some (.inl 4)) (k5 : Int32 → Int32 → Option Int32) (hk5 : ∀ (x3 : Int32) (x4 : Int32), k5 x3 x4 = some q → VV w RX5 cX5_countBelow 5 (some .int) rm_X5_countBelow false (QM w K (some (.int q)) m 0 0) K 5 [some (.ref a0), some (.long x1), none, some (.int x3), some (.int x4)] [] 0 0 m) {x3 : Int32} {x4 : Int32} (hf : f_X5_countBelow_32 K m a0 x1 k5 x3 x4 = some q) : VV w RX5 cX5_countBelow 5 (some .int) rm_X5_countBelow false (QM w K (some (.int q)) m 0 0) K 32 [some (.ref a0), some (.long x1), none, some (.int x3), some (.int x4)] [] 0 0 m := by
  unfold f_X5_countBelow_32 at hf
  obtain ⟨z1, e_z1, hf⟩ := bd_s hf
  refine vv_iincE (q := 35) (v := z1) (c := 1) (L' := [some (.ref a0), some (.long x1), none, some (.int x3), some (.int z1)]) e_z1 dX5_countBelow_32 rfl rfl (by decide) (Nat.le_of_ble_eq_true rfl) rfl ?_
  refine vv_goto 5 dX5_countBelow_35 (by decide) ?_
  exact hk5 _ _ hf

set_option maxHeartbeats 4000000 in
theorem v_X5_countBelow_5B {w : Wo} {K : Kn} {a0 : Nat} {x1 : Int64} {q : Int32} {m : Mem} (t_a0 : K a0 = some (.inl 4)) (k5 : Int32 → Int32 → Option Int32) (hk5 : ∀ (x3 : Int32) (x4 : Int32), k5 x3 x4 = some q → VV w RX5 cX5_countBelow 5 (some .int) rm_X5_countBelow false (QM w K (some (.int q)) m 0 0) K 5 [some (.ref a0), some (.long x1), none, some (.int x3), some (.int x4)] [] 0 0 m) {x3 : Int32} {x4 : Int32} (hf : f_X5_countBelow_5B K m a0 x1 k5 x3 x4 = some q) : VV w RX5 cX5_countBelow 5 (some .int) rm_X5_countBelow false (QM w K (some (.int q)) m 0 0) K 5 [some (.ref a0), some (.long x1), none, some (.int x3), some (.int x4)] [] 0 0 m := by
  unfold f_X5_countBelow_5B at hf
  refine vv_iload 7 dX5_countBelow_5 rfl rfl ?_
  refine vv_aload_n 8 dX5_countBelow_7 rfl rfl ?_
  refine gf_RX5_19 11 dX5_countBelow_8 rfl t_a0 ?_
  refine vv_icmp_ge 38 14 dX5_countBelow_11 rfl (by decide) (fun c1 => ?_) (fun c1 => ?_)
  · rw [if_pos c1] at hf
    refine vv_iload_n 39 dX5_countBelow_38 rfl rfl ?_
    obtain rfl := Option.some.inj hf
    exact vv_iret dX5_countBelow_39 rfl
  · rw [if_neg c1] at hf
    refine vv_aload_n 15 dX5_countBelow_14 rfl rfl ?_
    obtain ⟨b2, g_b2, hf⟩ := bind_s hf
    have t_b2 := (ldA_spec g_b2).2
    refine gf_RX5_15 18 dX5_countBelow_15 rfl t_a0 (ldA_spec g_b2).1 ?_
    refine vv_iload 20 dX5_countBelow_18 rfl rfl ?_
    obtain ⟨r3, g_r3, hf⟩ := bind_s hf
    refine vv_lald 21 dX5_countBelow_20 rfl t_b2 g_r3 ?_
    obtain ⟨q4, g_q4, hf⟩ := bind_s hf
    refine vv_callS 24 (st := []) (As := [.long r3]) (stk2 := [.long q4]) (cl2 := 0) (sl2 := 0) dX5_countBelow_21 rfl lk_RX5_43 w_839 ⟨(Nat.le_of_ble_eq_true rfl), (Nat.le_of_ble_eq_true rfl)⟩ rfl rfl ⟨(Nat.le_of_ble_eq_true rfl), (Nat.le_of_ble_eq_true rfl)⟩ rfl (Nat.le_of_ble_eq_true rfl) rfl rfl rfl rfl (c_X3_order g_q4) ?_
    refine vv_lload_n 25 dX5_countBelow_24 rfl rfl ?_
    refine vv_lcmp 26 dX5_countBelow_25 rfl ?_
    refine vv_if_ge 32 29 dX5_countBelow_26 rfl (by decide) (fun c5 => ?_) (fun c5 => ?_)
    · rw [if_pos c5] at hf
      exact v_X5_countBelow_32 t_a0 k5 hk5 hf
    · rw [if_neg c5] at hf
      obtain ⟨z6, e_z6, hf⟩ := bd_s hf
      refine vv_iincE (q := 32) (v := z6) (c := 1) (L' := [some (.ref a0), some (.long x1), none, some (.int z6), some (.int x4)]) e_z6 dX5_countBelow_29 rfl rfl (by decide) (Nat.le_of_ble_eq_true rfl) rfl ?_
      exact v_X5_countBelow_32 t_a0 k5 hk5 hf

theorem v_X5_countBelow_5 {w : Wo} {K : Kn} {a0 : Nat} {x1 : Int64} {q : Int32} {m : Mem} (t_a0 : K a0 = some (.inl 4)) : ∀ (n : Nat) (x3 : Int32) (x4 : Int32), f_X5_countBelow_5 K m a0 x1 n x3 x4 = some q → VV w RX5 cX5_countBelow 5 (some .int) rm_X5_countBelow false (QM w K (some (.int q)) m 0 0) K 5 [some (.ref a0), some (.long x1), none, some (.int x3), some (.int x4)] [] 0 0 m := by
  intro n
  induction n with
  | zero => intro x3 x4 hf; cases hf
  | succ n ih => intro x3 x4 hf; exact v_X5_countBelow_5B (a0 := a0) (x1 := x1) t_a0 (f_X5_countBelow_5 K m a0 x1 n) ih hf

set_option maxHeartbeats 4000000 in
theorem v_X5_countBelow_0 {w : Wo} {K : Kn} {a0 : Nat} {x1 : Int64} {q : Int32} {m : Mem} (t_a0 : K a0 = some (.inl 4)) (hf : f_X5_countBelow K m a0 x1 = some q) : VV w RX5 cX5_countBelow 5 (some .int) rm_X5_countBelow false (QM w K (some (.int q)) m 0 0) K 0 [some (.ref a0), some (.long x1), none, none, none] [] 0 0 m := by
  unfold f_X5_countBelow at hf
  refine vv_iconst 1 (v := 0) dX5_countBelow_0 rfl (by decide) ?_
  refine vv_istore_n 2 (L' := [some (.ref a0), some (.long x1), none, some (.int (0 : Int32)), none]) dX5_countBelow_1 rfl (Nat.le_of_ble_eq_true rfl) rfl ?_
  refine vv_iconst 3 (v := 0) dX5_countBelow_2 rfl (by decide) ?_
  refine vv_istore 5 (L' := [some (.ref a0), some (.long x1), none, some (.int (0 : Int32)), some (.int (0 : Int32))]) dX5_countBelow_3 rfl (Nat.le_of_ble_eq_true rfl) rfl ?_
  exact v_X5_countBelow_5 t_a0 FU _ _ hf

theorem c_X5_countBelow {w : Wo} {K : Kn} {a0 : Nat} {x1 : Int64} {q : Int32} {m : Mem} (t_a0 : K a0 = some (.inl 4)) (hf : F_X5_countBelow K m a0 x1 = some q) : MM w K K yX5_countBelow cX5_countBelow 5 (some .int) rm_X5_countBelow [.ref a0, .long x1] m (some (.int q)) m 0 0 :=
  mm_of (ini := false) (n := 2) (plainFor_of_name (by decide)) rfl (fun h => by first | rfl | cases h) (Nat.le_of_ble_eq_true rfl) rfl (v_X5_countBelow_0 t_a0 hf)

set_option maxHeartbeats 4000000 in
theorem v_X5_ranked_61 {w : Wo} {K : Kn} {a0 : Nat} {x1 : Int32} {q : Int64} {m : Mem} (t_a0 : K a0 = some (.inl 4)) (k12 : Int64 → Int64 → Int32 → Option Int64) (hk12 : ∀ (x2 : Int64) (x4 : Int64) (x6 : Int32), k12 x2 x4 x6 = some q → VV w RX5 cX5_ranked 9 (some .long) rm_X5_ranked false (QM w K (some (.long q)) m 0 0) K 12 [some (.ref a0), some (.int x1), some (.long x2), none, some (.long x4), none, some (.int x6), none, none] [] 0 0 m) {x2 : Int64} {x4 : Int64} {x6 : Int32} (hf : f_X5_ranked_61 K m a0 x1 k12 x2 x4 x6 = some q) : VV w RX5 cX5_ranked 9 (some .long) rm_X5_ranked false (QM w K (some (.long q)) m 0 0) K 61 [some (.ref a0), some (.int x1), some (.long x2), none, some (.long x4), none, some (.int x6), none, none] [] 0 0 m := by
  unfold f_X5_ranked_61 at hf
  obtain ⟨z1, e_z1, hf⟩ := bd_s hf
  refine vv_iincE (q := 64) (v := z1) (c := 1) (L' := [some (.ref a0), some (.int x1), some (.long x2), none, some (.long x4), none, some (.int z1), none, none]) e_z1 dX5_ranked_61 rfl rfl (by decide) (Nat.le_of_ble_eq_true rfl) rfl ?_
  refine vv_goto 12 dX5_ranked_64 (by decide) ?_
  exact hk12 _ _ _ hf

set_option maxHeartbeats 4000000 in
theorem v_X5_ranked_119 {w : Wo} {K : Kn} {a0 : Nat} {x1 : Int32} {q : Int64} {m : Mem} (t_a0 : K a0 = some (.inl 4)) (k79 : Int64 → Int32 → Int32 → Option Int64) (hk79 : ∀ (x2 : Int64) (x6 : Int32) (x7 : Int32), k79 x2 x6 x7 = some q → VV w RX5 cX5_ranked 9 (some .long) rm_X5_ranked false (QM w K (some (.long q)) m 0 0) K 79 [some (.ref a0), none, some (.long x2), none, none, none, some (.int x6), some (.int x7), none] [] 0 0 m) {x2 : Int64} {x6 : Int32} {x7 : Int32} (hf : f_X5_ranked_119 K m a0 x1 k79 x2 x6 x7 = some q) : VV w RX5 cX5_ranked 9 (some .long) rm_X5_ranked false (QM w K (some (.long q)) m 0 0) K 119 [some (.ref a0), none, some (.long x2), none, none, none, some (.int x6), some (.int x7), none] [] 0 0 m := by
  unfold f_X5_ranked_119 at hf
  obtain ⟨z1, e_z1, hf⟩ := bd_s hf
  refine vv_iincE (q := 122) (v := z1) (c := 1) (L' := [some (.ref a0), none, some (.long x2), none, none, none, some (.int x6), some (.int z1), none]) e_z1 dX5_ranked_119 rfl rfl (by decide) (Nat.le_of_ble_eq_true rfl) rfl ?_
  refine vv_goto 79 dX5_ranked_122 (by decide) ?_
  exact hk79 _ _ _ hf

set_option maxHeartbeats 4000000 in
theorem v_X5_ranked_79B {w : Wo} {K : Kn} {a0 : Nat} {x1 : Int32} {q : Int64} {m : Mem} (t_a0 : K a0 = some (.inl 4)) (k79 : Int64 → Int32 → Int32 → Option Int64) (hk79 : ∀ (x2 : Int64) (x6 : Int32) (x7 : Int32), k79 x2 x6 x7 = some q → VV w RX5 cX5_ranked 9 (some .long) rm_X5_ranked false (QM w K (some (.long q)) m 0 0) K 79 [some (.ref a0), none, some (.long x2), none, none, none, some (.int x6), some (.int x7), none] [] 0 0 m) {x2 : Int64} {x6 : Int32} {x7 : Int32} (hf : f_X5_ranked_79B K m a0 x1 k79 x2 x6 x7 = some q) : VV w RX5 cX5_ranked 9 (some .long) rm_X5_ranked false (QM w K (some (.long q)) m 0 0) K 79 [some (.ref a0), none, some (.long x2), none, none, none, some (.int x6), some (.int x7), none] [] 0 0 m := by
  unfold f_X5_ranked_79B at hf
  refine vv_iload 81 dX5_ranked_79 rfl rfl ?_
  refine vv_aload_n 82 dX5_ranked_81 rfl rfl ?_
  refine gf_RX5_19 85 dX5_ranked_82 rfl t_a0 ?_
  refine vv_icmp_ge 125 88 dX5_ranked_85 rfl (by decide) (fun c1 => ?_) (fun c1 => ?_)
  · rw [if_pos c1] at hf
    refine vv_ldc2 128 (v := 9221120237041090560) dX5_ranked_125 rfl w_891 ?_
    obtain rfl := Option.some.inj hf
    exact vv_lret dX5_ranked_128 rfl
  · rw [if_neg c1] at hf
    refine vv_aload_n 89 dX5_ranked_88 rfl rfl ?_
    obtain ⟨b2, g_b2, hf⟩ := bind_s hf
    have t_b2 := (ldA_spec g_b2).2
    refine gf_RX5_15 92 dX5_ranked_89 rfl t_a0 (ldA_spec g_b2).1 ?_
    refine vv_iload 94 dX5_ranked_92 rfl rfl ?_
    obtain ⟨r3, g_r3, hf⟩ := bind_s hf
    refine vv_lald 95 dX5_ranked_94 rfl t_b2 g_r3 ?_
    obtain ⟨q4, g_q4, hf⟩ := bind_s hf
    refine vv_callS 98 (st := []) (As := [.long r3]) (stk2 := [.long q4]) (cl2 := 0) (sl2 := 0) dX5_ranked_95 rfl lk_RX5_43 w_839 ⟨(Nat.le_of_ble_eq_true rfl), (Nat.le_of_ble_eq_true rfl)⟩ rfl rfl ⟨(Nat.le_of_ble_eq_true rfl), (Nat.le_of_ble_eq_true rfl)⟩ rfl (Nat.le_of_ble_eq_true rfl) rfl rfl rfl rfl (c_X3_order g_q4) ?_
    refine vv_lload_n 99 dX5_ranked_98 rfl rfl ?_
    refine vv_lcmp 100 dX5_ranked_99 rfl ?_
    refine vv_if_ne 119 103 dX5_ranked_100 rfl (by decide) (fun c5 => ?_) (fun c5 => ?_)
    · rw [if_pos c5] at hf
      refine vv_iload 105 dX5_ranked_103 rfl rfl ?_
      refine vv_if_ne 116 108 dX5_ranked_105 rfl (by decide) (fun c6 => ?_) (fun c6 => ?_)
      · rw [if_pos c6] at hf
        refine vv_aload_n 109 dX5_ranked_108 rfl rfl ?_
        obtain ⟨b7, g_b7, hf⟩ := bind_s hf
        have t_b7 := (ldA_spec g_b7).2
        refine gf_RX5_15 112 dX5_ranked_109 rfl t_a0 (ldA_spec g_b7).1 ?_
        refine vv_iload 114 dX5_ranked_112 rfl rfl ?_
        obtain ⟨r8, g_r8, hf⟩ := bind_s hf
        refine vv_lald 115 dX5_ranked_114 rfl t_b7 g_r8 ?_
        obtain rfl := Option.some.inj hf
        exact vv_lret dX5_ranked_115 rfl
      · rw [if_neg c6] at hf
        obtain ⟨z9, e_z9, hf⟩ := bd_s hf
        refine vv_iincE (q := 119) (v := z9) (c := (-1)) (L' := [some (.ref a0), none, some (.long x2), none, none, none, some (.int z9), some (.int x7), none]) e_z9 dX5_ranked_116 rfl rfl (by decide) (Nat.le_of_ble_eq_true rfl) rfl ?_
        exact v_X5_ranked_119 t_a0 k79 hk79 hf
    · rw [if_neg c5] at hf
      exact v_X5_ranked_119 t_a0 k79 hk79 hf

theorem v_X5_ranked_79 {w : Wo} {K : Kn} {a0 : Nat} {x1 : Int32} {q : Int64} {m : Mem} (t_a0 : K a0 = some (.inl 4)) : ∀ (n : Nat) (x2 : Int64) (x6 : Int32) (x7 : Int32), f_X5_ranked_79 K m a0 x1 n x2 x6 x7 = some q → VV w RX5 cX5_ranked 9 (some .long) rm_X5_ranked false (QM w K (some (.long q)) m 0 0) K 79 [some (.ref a0), none, some (.long x2), none, none, none, some (.int x6), some (.int x7), none] [] 0 0 m := by
  intro n
  induction n with
  | zero => intro x2 x6 x7 hf; cases hf
  | succ n ih => intro x2 x6 x7 hf; exact v_X5_ranked_79B (a0 := a0) (x1 := x1) t_a0 (f_X5_ranked_79 K m a0 x1 n) ih hf

set_option maxHeartbeats 4000000 in
theorem v_X5_ranked_67 {w : Wo} {K : Kn} {a0 : Nat} {x1 : Int32} {q : Int64} {m : Mem} (t_a0 : K a0 = some (.inl 4)) {x2 : Int64} (hf : f_X5_ranked_67 K m a0 x1 x2 = some q) : VV w RX5 cX5_ranked 9 (some .long) rm_X5_ranked false (QM w K (some (.long q)) m 0 0) K 67 [some (.ref a0), some (.int x1), some (.long x2), none, none, none, none, none, none] [] 0 0 m := by
  unfold f_X5_ranked_67 at hf
  refine vv_iload_n 68 dX5_ranked_67 rfl rfl ?_
  refine vv_aload_n 69 dX5_ranked_68 rfl rfl ?_
  refine vv_lload_n 70 dX5_ranked_69 rfl rfl ?_
  obtain ⟨q1, g_q1, hf⟩ := bind_s hf
  refine vv_callV 73 (st := [.int x1]) (As := [.long x2]) (stk2 := [.int q1, .int x1]) (cl2 := 0) (sl2 := 0) dX5_ranked_70 rfl lk_RX5_68 w_940 w_15 rfl t_a0 ⟨(Nat.le_of_ble_eq_true rfl), (Nat.le_of_ble_eq_true rfl)⟩ rfl rfl ⟨(Nat.le_of_ble_eq_true rfl), (Nat.le_of_ble_eq_true rfl)⟩ rfl (Nat.le_of_ble_eq_true rfl) rfl rfl rfl rfl (c_X5_countBelow t_a0 g_q1) ?_
  refine vv_isub 74 dX5_ranked_73 rfl ?_
  obtain ⟨z2, e_z2, hf⟩ := bd_s hf
  refine vv_istoreE (q := 76) (v := z2) (L' := [some (.ref a0), some (.int x1), some (.long x2), none, none, none, some (.int z2), none, none]) e_z2 dX5_ranked_74 rfl (Nat.le_of_ble_eq_true rfl) rfl ?_
  refine vv_iconst 77 (v := 0) dX5_ranked_76 rfl (by decide) ?_
  refine vv_istore 79 (L' := [some (.ref a0), some (.int x1), some (.long x2), none, none, none, some (.int z2), some (.int (0 : Int32)), none]) dX5_ranked_77 rfl (Nat.le_of_ble_eq_true rfl) rfl ?_
  exact VV.lle (v_X5_ranked_79 t_a0 FU _ _ _ hf) (lle_s (lle_n (lle_s (lle_s (lle_s (lle_s (lle_s (lle_s (lle_s lle_nil)))))))))

set_option maxHeartbeats 4000000 in
theorem v_X5_ranked_12B {w : Wo} {K : Kn} {a0 : Nat} {x1 : Int32} {q : Int64} {m : Mem} (t_a0 : K a0 = some (.inl 4)) (k12 : Int64 → Int64 → Int32 → Option Int64) (hk12 : ∀ (x2 : Int64) (x4 : Int64) (x6 : Int32), k12 x2 x4 x6 = some q → VV w RX5 cX5_ranked 9 (some .long) rm_X5_ranked false (QM w K (some (.long q)) m 0 0) K 12 [some (.ref a0), some (.int x1), some (.long x2), none, some (.long x4), none, some (.int x6), none, none] [] 0 0 m) {x2 : Int64} {x4 : Int64} {x6 : Int32} (hf : f_X5_ranked_12B K m a0 x1 k12 x2 x4 x6 = some q) : VV w RX5 cX5_ranked 9 (some .long) rm_X5_ranked false (QM w K (some (.long q)) m 0 0) K 12 [some (.ref a0), some (.int x1), some (.long x2), none, some (.long x4), none, some (.int x6), none, none] [] 0 0 m := by
  unfold f_X5_ranked_12B at hf
  refine vv_iload 14 dX5_ranked_12 rfl rfl ?_
  refine vv_bipush 16 (v := 64) dX5_ranked_14 rfl (by decide) ?_
  refine vv_icmp_ge 67 19 dX5_ranked_16 rfl (by decide) (fun c1 => ?_) (fun c1 => ?_)
  · rw [if_pos c1] at hf
    exact VV.lle (v_X5_ranked_67 t_a0 hf) (lle_s (lle_s (lle_s (lle_s (lle_n (lle_s (lle_n (lle_s (lle_s lle_nil)))))))))
  · rw [if_neg c1] at hf
    refine vv_lload_n 20 dX5_ranked_19 rfl rfl ?_
    refine vv_lload 22 dX5_ranked_20 rfl rfl ?_
    refine vv_lcmp 23 dX5_ranked_22 rfl ?_
    refine vv_if_ge 67 26 dX5_ranked_23 rfl (by decide) (fun c2 => ?_) (fun c2 => ?_)
    · rw [if_pos c2] at hf
      exact VV.lle (v_X5_ranked_67 t_a0 hf) (lle_s (lle_s (lle_s (lle_s (lle_n (lle_s (lle_n (lle_s (lle_s lle_nil)))))))))
    · rw [if_neg c2] at hf
      refine vv_lload_n 27 dX5_ranked_26 rfl rfl ?_
      refine vv_lload 29 dX5_ranked_27 rfl rfl ?_
      refine vv_lor 30 dX5_ranked_29 rfl ?_
      refine vv_lload_n 31 dX5_ranked_30 rfl rfl ?_
      refine vv_lload 33 dX5_ranked_31 rfl rfl ?_
      refine vv_lxor 34 dX5_ranked_33 rfl ?_
      refine vv_iconst 35 (v := 1) dX5_ranked_34 rfl (by decide) ?_
      refine vv_lshr 36 dX5_ranked_35 rfl ?_
      refine vv_lsub 37 dX5_ranked_36 rfl ?_
      obtain ⟨z3, e_z3, hf⟩ := bd_s hf
      refine vv_lstoreE (q := 39) (v := z3) (L' := [some (.ref a0), some (.int x1), some (.long x2), none, some (.long x4), none, some (.int x6), some (.long z3), none]) e_z3 dX5_ranked_37 rfl (Nat.le_of_ble_eq_true rfl) rfl ?_
      refine vv_aload_n 40 dX5_ranked_39 rfl rfl ?_
      refine vv_lload 42 dX5_ranked_40 rfl rfl ?_
      obtain ⟨q4, g_q4, hf⟩ := bind_s hf
      refine vv_callV 45 (st := []) (As := [.long z3]) (stk2 := [.int q4]) (cl2 := 0) (sl2 := 0) dX5_ranked_42 rfl lk_RX5_68 w_940 w_15 rfl t_a0 ⟨(Nat.le_of_ble_eq_true rfl), (Nat.le_of_ble_eq_true rfl)⟩ rfl rfl ⟨(Nat.le_of_ble_eq_true rfl), (Nat.le_of_ble_eq_true rfl)⟩ rfl (Nat.le_of_ble_eq_true rfl) rfl rfl rfl rfl (c_X5_countBelow t_a0 g_q4) ?_
      refine vv_iload_n 46 dX5_ranked_45 rfl rfl ?_
      refine vv_icmp_gt 55 49 dX5_ranked_46 rfl (by decide) (fun c5 => ?_) (fun c5 => ?_)
      · rw [if_pos c5] at hf
        refine vv_lload 57 dX5_ranked_55 rfl rfl ?_
        refine vv_lconst 58 (v := 1) dX5_ranked_57 rfl (by decide) ?_
        refine vv_lsub 59 dX5_ranked_58 rfl ?_
        obtain ⟨z6, e_z6, hf⟩ := bd_s hf
        refine vv_lstoreE (q := 61) (v := z6) (L' := [some (.ref a0), some (.int x1), some (.long x2), none, some (.long z6), none, some (.int x6), some (.long z3), none]) e_z6 dX5_ranked_59 rfl (Nat.le_of_ble_eq_true rfl) rfl ?_
        exact VV.lle (v_X5_ranked_61 t_a0 k12 hk12 hf) (lle_s (lle_s (lle_s (lle_s (lle_s (lle_s (lle_s (lle_n (lle_s lle_nil)))))))))
      · rw [if_neg c5] at hf
        refine vv_lload 51 dX5_ranked_49 rfl rfl ?_
        refine vv_lstore_n 52 (L' := [some (.ref a0), some (.int x1), some (.long z3), none, some (.long x4), none, some (.int x6), some (.long z3), none]) dX5_ranked_51 rfl (Nat.le_of_ble_eq_true rfl) rfl ?_
        refine vv_goto 61 dX5_ranked_52 (by decide) ?_
        exact VV.lle (v_X5_ranked_61 t_a0 k12 hk12 hf) (lle_s (lle_s (lle_s (lle_s (lle_s (lle_s (lle_s (lle_n (lle_s lle_nil)))))))))

theorem v_X5_ranked_12 {w : Wo} {K : Kn} {a0 : Nat} {x1 : Int32} {q : Int64} {m : Mem} (t_a0 : K a0 = some (.inl 4)) : ∀ (n : Nat) (x2 : Int64) (x4 : Int64) (x6 : Int32), f_X5_ranked_12 K m a0 x1 n x2 x4 x6 = some q → VV w RX5 cX5_ranked 9 (some .long) rm_X5_ranked false (QM w K (some (.long q)) m 0 0) K 12 [some (.ref a0), some (.int x1), some (.long x2), none, some (.long x4), none, some (.int x6), none, none] [] 0 0 m := by
  intro n
  induction n with
  | zero => intro x2 x4 x6 hf; cases hf
  | succ n ih => intro x2 x4 x6 hf; exact v_X5_ranked_12B (a0 := a0) (x1 := x1) t_a0 (f_X5_ranked_12 K m a0 x1 n) ih hf

set_option maxHeartbeats 4000000 in
theorem v_X5_ranked_0 {w : Wo} {K : Kn} {a0 : Nat} {x1 : Int32} {q : Int64} {m : Mem} (t_a0 : K a0 = some (.inl 4)) (hf : f_X5_ranked K m a0 x1 = some q) : VV w RX5 cX5_ranked 9 (some .long) rm_X5_ranked false (QM w K (some (.long q)) m 0 0) K 0 [some (.ref a0), some (.int x1), none, none, none, none, none, none, none] [] 0 0 m := by
  unfold f_X5_ranked at hf
  refine vv_ldc2 3 (v := (-9218868437227405312)) dX5_ranked_0 rfl w_936 ?_
  refine vv_lstore_n 4 (L' := [some (.ref a0), some (.int x1), some (.long (-9218868437227405312 : Int64)), none, none, none, none, none, none]) dX5_ranked_3 rfl (Nat.le_of_ble_eq_true rfl) rfl ?_
  refine vv_ldc2 7 (v := 9218868437227405312) dX5_ranked_4 rfl w_937 ?_
  refine vv_lstore 9 (L' := [some (.ref a0), some (.int x1), some (.long (-9218868437227405312 : Int64)), none, some (.long (9218868437227405312 : Int64)), none, none, none, none]) dX5_ranked_7 rfl (Nat.le_of_ble_eq_true rfl) rfl ?_
  refine vv_iconst 10 (v := 0) dX5_ranked_9 rfl (by decide) ?_
  refine vv_istore 12 (L' := [some (.ref a0), some (.int x1), some (.long (-9218868437227405312 : Int64)), none, some (.long (9218868437227405312 : Int64)), none, some (.int (0 : Int32)), none, none]) dX5_ranked_10 rfl (Nat.le_of_ble_eq_true rfl) rfl ?_
  exact v_X5_ranked_12 t_a0 FU _ _ _ hf

theorem c_X5_ranked {w : Wo} {K : Kn} {a0 : Nat} {x1 : Int32} {q : Int64} {m : Mem} (t_a0 : K a0 = some (.inl 4)) (hf : F_X5_ranked K m a0 x1 = some q) : MM w K K yX5_ranked cX5_ranked 9 (some .long) rm_X5_ranked [.ref a0, .int x1] m (some (.long q)) m 0 0 :=
  mm_of (ini := false) (n := 7) (plainFor_of_name (by decide)) rfl (fun h => by first | rfl | cases h) (Nat.le_of_ble_eq_true rfl) rfl (v_X5_ranked_0 t_a0 hf)

set_option maxHeartbeats 4000000 in
theorem v_X8_least_0 {w : Wo} {K : Kn} {a0 : Nat} {x1 : Int32} {x2 : Int32} {x3 : Int32} {x4 : Int32} {q : (Int64 × Mem)} (t_a0 : K a0 = some (.inl 7)) {m : Mem} (hf : f_X8_least K a0 x1 x2 x3 x4 m = some q) : VV w RX8 cX8_least 5 (some .long) rm_X8_least false (QM w K (some (.long q.1)) q.2 0 0) K 0 [some (.ref a0), some (.int x1), some (.int x2), some (.int x3), some (.int x4)] [] 0 0 m := by
  unfold f_X8_least at hf
  refine vv_aload_n 1 dX8_least_0 rfl rfl ?_
  refine vv_iload_n 2 dX8_least_1 rfl rfl ?_
  obtain ⟨q1, g_q1, hf⟩ := bind_s hf
  refine vv_callV 5 (st := []) (As := [.int x1]) (stk2 := [.int q1]) (cl2 := 0) (sl2 := 0) dX8_least_2 rfl lk_RX8_81 w_469 w_0 rfl t_a0 ⟨(Nat.le_of_ble_eq_true rfl), (Nat.le_of_ble_eq_true rfl)⟩ rfl rfl ⟨(Nat.le_of_ble_eq_true rfl), (Nat.le_of_ble_eq_true rfl)⟩ rfl (Nat.le_of_ble_eq_true rfl) rfl rfl rfl rfl (c_X8_isNone t_a0 g_q1) ?_
  refine vv_if_ne 18 8 dX8_least_5 rfl (by decide) (fun c2 => ?_) (fun c2 => ?_)
  · rw [if_pos c2] at hf
    refine vv_iload_n 9 dX8_least_8 rfl rfl ?_
    refine vv_iload_n 10 dX8_least_9 rfl rfl ?_
    refine vv_icmp_gt 18 13 dX8_least_10 rfl (by decide) (fun c3 => ?_) (fun c3 => ?_)
    · rw [if_pos c3] at hf
      refine vv_ldc2 21 (v := 9221120237041090560) dX8_least_18 rfl w_870 ?_
      obtain rfl := Option.some.inj hf
      exact vv_lret dX8_least_21 rfl
    · rw [if_neg c3] at hf
      refine vv_iload 15 dX8_least_13 rfl rfl ?_
      refine vv_if_ge 22 18 dX8_least_15 rfl (by decide) (fun c4 => ?_) (fun c4 => ?_)
      · rw [if_pos c4] at hf
        refine vv_aload_n 23 dX8_least_22 rfl rfl ?_
        obtain ⟨b5, g_b5, hf⟩ := bind_s hf
        have t_b5 := (ldA_spec g_b5).2
        refine gf_RX8_11 26 dX8_least_23 rfl t_a0 (ldA_spec g_b5).1 ?_
        refine vv_iload_n 27 dX8_least_26 rfl rfl ?_
        obtain ⟨b6, g_b6, hf⟩ := bind_s hf
        have t_b6 := (alO_spec g_b6).2
        refine vv_aald3 28 dX8_least_27 rfl t_b5 g_b6 ?_
        refine vv_iload_n 29 dX8_least_28 rfl rfl ?_
        refine vv_iload_n 30 dX8_least_29 rfl rfl ?_
        refine vv_aload_n 31 dX8_least_30 rfl rfl ?_
        obtain ⟨b7, g_b7, hf⟩ := bind_s hf
        have t_b7 := (ldO_spec g_b7).2
        refine gf_RX8_44 34 dX8_least_31 rfl t_a0 (ldO_spec g_b7).1 ?_
        refine vv_aload_n 35 dX8_least_34 rfl rfl ?_
        obtain ⟨b8, g_b8, hf⟩ := bind_s hf
        have t_b8 := (ldO_spec g_b8).2
        refine gf_RX8_25 38 dX8_least_35 rfl t_a0 (ldO_spec g_b8).1 ?_
        obtain ⟨q9, g_q9, hf⟩ := bind_s hf
        refine vv_callV 41 (st := []) (As := [.int x2, .int x3, .ref b7, .ref b8]) (stk2 := []) (cl2 := 0) (sl2 := 0) dX8_least_38 rfl lk_RX8_228 w_697 w_698 rfl t_b6 ⟨(Nat.le_of_ble_eq_true rfl), (Nat.le_of_ble_eq_true rfl)⟩ rfl rfl ⟨(Nat.le_of_ble_eq_true rfl), (Nat.le_of_ble_eq_true rfl)⟩ rfl (Nat.le_of_ble_eq_true rfl) rfl rfl rfl rfl (c_X7_gather t_b6 t_b7 t_b8 g_q9) ?_
        refine vv_aload_n 42 dX8_least_41 rfl rfl ?_
        obtain ⟨b10, g_b10, hf⟩ := bind_s hf
        have t_b10 := (ldO_spec g_b10).2
        refine gf_RX8_25 45 dX8_least_42 rfl t_a0 (ldO_spec g_b10).1 ?_
        obtain ⟨q11, g_q11, hf⟩ := bind_s hf
        refine vv_callV 48 (st := []) (As := []) (stk2 := []) (cl2 := 0) (sl2 := 0) dX8_least_45 rfl lk_RX8_282 w_872 w_873 rfl t_b10 ⟨(Nat.le_of_ble_eq_true rfl), (Nat.le_of_ble_eq_true rfl)⟩ rfl rfl ⟨(Nat.le_of_ble_eq_true rfl), (Nat.le_of_ble_eq_true rfl)⟩ rfl (Nat.le_of_ble_eq_true rfl) rfl rfl rfl rfl (c_X5_keepNumbers t_b10 g_q11) ?_
        refine vv_iload 50 dX8_least_48 rfl rfl ?_
        refine vv_aload_n 51 dX8_least_50 rfl rfl ?_
        obtain ⟨b12, g_b12, hf⟩ := bind_s hf
        have t_b12 := (ldO_spec g_b12).2
        refine gf_RX8_25 54 dX8_least_51 rfl t_a0 (ldO_spec g_b12).1 ?_
        refine gf_RX8_102 57 dX8_least_54 rfl t_b12 ?_
        refine vv_icmp_ge 72 60 dX8_least_57 rfl (by decide) (fun c13 => ?_) (fun c13 => ?_)
        · rw [if_pos c13] at hf
          refine vv_ldc2 75 (v := 9221120237041090560) dX8_least_72 rfl w_870 ?_
          obtain rfl := Option.some.inj hf
          exact vv_lret dX8_least_75 rfl
        · rw [if_neg c13] at hf
          refine vv_aload_n 61 dX8_least_60 rfl rfl ?_
          obtain ⟨b14, g_b14, hf⟩ := bind_s hf
          have t_b14 := (ldO_spec g_b14).2
          refine gf_RX8_25 64 dX8_least_61 rfl t_a0 (ldO_spec g_b14).1 ?_
          refine vv_iload 66 dX8_least_64 rfl rfl ?_
          obtain ⟨q15, g_q15, hf⟩ := bind_s hf
          refine vv_callV 69 (st := []) (As := [.int x4]) (stk2 := [.long q15]) (cl2 := 0) (sl2 := 0) dX8_least_66 rfl lk_RX8_298 w_933 w_934 rfl t_b14 ⟨(Nat.le_of_ble_eq_true rfl), (Nat.le_of_ble_eq_true rfl)⟩ rfl rfl ⟨(Nat.le_of_ble_eq_true rfl), (Nat.le_of_ble_eq_true rfl)⟩ rfl (Nat.le_of_ble_eq_true rfl) rfl rfl rfl rfl (c_X5_ranked t_b14 g_q15) ?_
          refine vv_goto 75 dX8_least_69 (by decide) ?_
          obtain rfl := Option.some.inj hf
          exact vv_lret dX8_least_75 rfl
      · rw [if_neg c4] at hf
        refine vv_ldc2 21 (v := 9221120237041090560) dX8_least_18 rfl w_870 ?_
        obtain rfl := Option.some.inj hf
        exact vv_lret dX8_least_21 rfl
  · rw [if_neg c2] at hf
    refine vv_ldc2 21 (v := 9221120237041090560) dX8_least_18 rfl w_870 ?_
    obtain rfl := Option.some.inj hf
    exact vv_lret dX8_least_21 rfl

theorem c_X8_least {w : Wo} {K : Kn} {a0 : Nat} {x1 : Int32} {x2 : Int32} {x3 : Int32} {x4 : Int32} {q : (Int64 × Mem)} {m : Mem} (t_a0 : K a0 = some (.inl 7)) (hf : F_X8_least K m a0 x1 x2 x3 x4 = some q) : MM w K K yX8_least cX8_least 5 (some .long) rm_X8_least [.ref a0, .int x1, .int x2, .int x3, .int x4] m (some (.long q.1)) q.2 0 0 :=
  mm_of (ini := false) (n := 0) (plainFor_of_name (by decide)) rfl (fun h => by first | rfl | cases h) (Nat.le_of_ble_eq_true rfl) rfl (v_X8_least_0 t_a0 hf)

set_option maxHeartbeats 4000000 in
theorem v_X5_passings_98 {w : Wo} {K : Kn} {a0 : Nat} {x1 : Int64} {q : Int32} {m : Mem} (t_a0 : K a0 = some (.inl 4)) (k11 : Int32 → Int64 → Int32 → Option Int32) (hk11 : ∀ (x3 : Int32) (x4 : Int64) (x6 : Int32), k11 x3 x4 x6 = some q → VV w RX5 cX5_passings 7 (some .int) rm_X5_passings false (QM w K (some (.int q)) m 0 0) K 11 [some (.ref a0), none, none, some (.int x3), some (.long x4), none, some (.int x6)] [] 0 0 m) {x3 : Int32} {x4 : Int64} {x6 : Int32} (hf : f_X5_passings_98 K m a0 x1 k11 x3 x4 x6 = some q) : VV w RX5 cX5_passings 7 (some .int) rm_X5_passings false (QM w K (some (.int q)) m 0 0) K 98 [some (.ref a0), none, none, some (.int x3), some (.long x4), none, some (.int x6)] [] 0 0 m := by
  unfold f_X5_passings_98 at hf
  obtain ⟨z1, e_z1, hf⟩ := bd_s hf
  refine vv_iincE (q := 101) (v := z1) (c := 1) (L' := [some (.ref a0), none, none, some (.int x3), some (.long x4), none, some (.int z1)]) e_z1 dX5_passings_98 rfl rfl (by decide) (Nat.le_of_ble_eq_true rfl) rfl ?_
  refine vv_goto 11 dX5_passings_101 (by decide) ?_
  exact hk11 _ _ _ hf

set_option maxHeartbeats 4000000 in
theorem v_X5_passings_92 {w : Wo} {K : Kn} {a0 : Nat} {x1 : Int64} {q : Int32} {m : Mem} (t_a0 : K a0 = some (.inl 4)) (k11 : Int32 → Int64 → Int32 → Option Int32) (hk11 : ∀ (x3 : Int32) (x4 : Int64) (x6 : Int32), k11 x3 x4 x6 = some q → VV w RX5 cX5_passings 7 (some .int) rm_X5_passings false (QM w K (some (.int q)) m 0 0) K 11 [some (.ref a0), none, none, some (.int x3), some (.long x4), none, some (.int x6)] [] 0 0 m) {x3 : Int32} {x4 : Int64} {x6 : Int32} {s0 : Int32} {s1 : Int32} (hf : f_X5_passings_92 K m a0 x1 k11 x3 x4 x6 s0 s1 = some q) : VV w RX5 cX5_passings 7 (some .int) rm_X5_passings false (QM w K (some (.int q)) m 0 0) K 92 [some (.ref a0), none, none, some (.int x3), some (.long x4), none, some (.int x6)] [.int s1, .int s0] 0 0 m := by
  unfold f_X5_passings_92 at hf
  refine vv_icmp_eq 98 95 dX5_passings_92 rfl (by decide) (fun c1 => ?_) (fun c1 => ?_)
  · rw [if_pos c1] at hf
    exact v_X5_passings_98 t_a0 k11 hk11 hf
  · rw [if_neg c1] at hf
    obtain ⟨z2, e_z2, hf⟩ := bd_s hf
    refine vv_iincE (q := 98) (v := z2) (c := 1) (L' := [some (.ref a0), none, none, some (.int z2), some (.long x4), none, some (.int x6)]) e_z2 dX5_passings_95 rfl rfl (by decide) (Nat.le_of_ble_eq_true rfl) rfl ?_
    exact v_X5_passings_98 t_a0 k11 hk11 hf

set_option maxHeartbeats 4000000 in
theorem v_X5_passings_71 {w : Wo} {K : Kn} {a0 : Nat} {x1 : Int64} {q : Int32} {m : Mem} (t_a0 : K a0 = some (.inl 4)) (k11 : Int32 → Int64 → Int32 → Option Int32) (hk11 : ∀ (x3 : Int32) (x4 : Int64) (x6 : Int32), k11 x3 x4 x6 = some q → VV w RX5 cX5_passings 7 (some .int) rm_X5_passings false (QM w K (some (.int q)) m 0 0) K 11 [some (.ref a0), none, none, some (.int x3), some (.long x4), none, some (.int x6)] [] 0 0 m) {x3 : Int32} {x4 : Int64} {x6 : Int32} {s0 : Int32} (hf : f_X5_passings_71 K m a0 x1 k11 x3 x4 x6 s0 = some q) : VV w RX5 cX5_passings 7 (some .int) rm_X5_passings false (QM w K (some (.int q)) m 0 0) K 71 [some (.ref a0), none, none, some (.int x3), some (.long x4), none, some (.int x6)] [.int s0] 0 0 m := by
  unfold f_X5_passings_71 at hf
  refine vv_aload_n 72 dX5_passings_71 rfl rfl ?_
  obtain ⟨b1, g_b1, hf⟩ := bind_s hf
  have t_b1 := (ldA_spec g_b1).2
  refine gf_RX5_15 75 dX5_passings_72 rfl t_a0 (ldA_spec g_b1).1 ?_
  refine vv_iload 77 dX5_passings_75 rfl rfl ?_
  obtain ⟨r2, g_r2, hf⟩ := bind_s hf
  refine vv_lald 78 dX5_passings_77 rfl t_b1 g_r2 ?_
  obtain ⟨q3, g_q3, hf⟩ := bind_s hf
  refine vv_callS 81 (st := [.int s0]) (As := [.long r2]) (stk2 := [.long q3, .int s0]) (cl2 := 0) (sl2 := 0) dX5_passings_78 rfl lk_RX5_43 w_839 ⟨(Nat.le_of_ble_eq_true rfl), (Nat.le_of_ble_eq_true rfl)⟩ rfl rfl ⟨(Nat.le_of_ble_eq_true rfl), (Nat.le_of_ble_eq_true rfl)⟩ rfl (Nat.le_of_ble_eq_true rfl) rfl rfl rfl rfl (c_X3_order g_q3) ?_
  refine vv_lload 83 dX5_passings_81 rfl rfl ?_
  refine vv_lcmp 84 dX5_passings_83 rfl ?_
  refine vv_if_ge 91 87 dX5_passings_84 rfl (by decide) (fun c4 => ?_) (fun c4 => ?_)
  · rw [if_pos c4] at hf
    refine vv_iconst 92 (v := 0) dX5_passings_91 rfl (by decide) ?_
    exact v_X5_passings_92 t_a0 k11 hk11 hf
  · rw [if_neg c4] at hf
    refine vv_iconst 88 (v := 1) dX5_passings_87 rfl (by decide) ?_
    refine vv_goto 92 dX5_passings_88 (by decide) ?_
    exact v_X5_passings_92 t_a0 k11 hk11 hf

set_option maxHeartbeats 4000000 in
theorem v_X5_passings_11B {w : Wo} {K : Kn} {a0 : Nat} {x1 : Int64} {q : Int32} {m : Mem} (t_a0 : K a0 = some (.inl 4)) (k11 : Int32 → Int64 → Int32 → Option Int32) (hk11 : ∀ (x3 : Int32) (x4 : Int64) (x6 : Int32), k11 x3 x4 x6 = some q → VV w RX5 cX5_passings 7 (some .int) rm_X5_passings false (QM w K (some (.int q)) m 0 0) K 11 [some (.ref a0), none, none, some (.int x3), some (.long x4), none, some (.int x6)] [] 0 0 m) {x3 : Int32} {x4 : Int64} {x6 : Int32} (hf : f_X5_passings_11B K m a0 x1 k11 x3 x4 x6 = some q) : VV w RX5 cX5_passings 7 (some .int) rm_X5_passings false (QM w K (some (.int q)) m 0 0) K 11 [some (.ref a0), none, none, some (.int x3), some (.long x4), none, some (.int x6)] [] 0 0 m := by
  unfold f_X5_passings_11B at hf
  refine vv_iload 13 dX5_passings_11 rfl rfl ?_
  refine vv_aload_n 14 dX5_passings_13 rfl rfl ?_
  refine gf_RX5_19 17 dX5_passings_14 rfl t_a0 ?_
  refine vv_icmp_ge 104 20 dX5_passings_17 rfl (by decide) (fun c1 => ?_) (fun c1 => ?_)
  · rw [if_pos c1] at hf
    refine vv_iload_n 105 dX5_passings_104 rfl rfl ?_
    obtain rfl := Option.some.inj hf
    exact vv_iret dX5_passings_105 rfl
  · rw [if_neg c1] at hf
    refine vv_aload_n 21 dX5_passings_20 rfl rfl ?_
    obtain ⟨b2, g_b2, hf⟩ := bind_s hf
    have t_b2 := (ldA_spec g_b2).2
    refine gf_RX5_15 24 dX5_passings_21 rfl t_a0 (ldA_spec g_b2).1 ?_
    refine vv_iload 26 dX5_passings_24 rfl rfl ?_
    refine vv_iconst 27 (v := 1) dX5_passings_26 rfl (by decide) ?_
    refine vv_isub 28 dX5_passings_27 rfl ?_
    obtain ⟨r3, g_r3, hf⟩ := bind_s hf
    refine vv_lald 29 dX5_passings_28 rfl t_b2 g_r3 ?_
    obtain ⟨q4, g_q4, hf⟩ := bind_s hf
    refine vv_callS 32 (st := []) (As := [.long r3]) (stk2 := [.int q4]) (cl2 := 0) (sl2 := 0) dX5_passings_29 rfl lk_RX5_37 w_834 ⟨(Nat.le_of_ble_eq_true rfl), (Nat.le_of_ble_eq_true rfl)⟩ rfl rfl ⟨(Nat.le_of_ble_eq_true rfl), (Nat.le_of_ble_eq_true rfl)⟩ rfl (Nat.le_of_ble_eq_true rfl) rfl rfl rfl rfl (c_X3_isNumber g_q4) ?_
    refine vv_if_eq 98 35 dX5_passings_32 rfl (by decide) (fun c5 => ?_) (fun c5 => ?_)
    · rw [if_pos c5] at hf
      exact v_X5_passings_98 t_a0 k11 hk11 hf
    · rw [if_neg c5] at hf
      refine vv_aload_n 36 dX5_passings_35 rfl rfl ?_
      obtain ⟨b6, g_b6, hf⟩ := bind_s hf
      have t_b6 := (ldA_spec g_b6).2
      refine gf_RX5_15 39 dX5_passings_36 rfl t_a0 (ldA_spec g_b6).1 ?_
      refine vv_iload 41 dX5_passings_39 rfl rfl ?_
      obtain ⟨r7, g_r7, hf⟩ := bind_s hf
      refine vv_lald 42 dX5_passings_41 rfl t_b6 g_r7 ?_
      obtain ⟨q8, g_q8, hf⟩ := bind_s hf
      refine vv_callS 45 (st := []) (As := [.long r7]) (stk2 := [.int q8]) (cl2 := 0) (sl2 := 0) dX5_passings_42 rfl lk_RX5_37 w_834 ⟨(Nat.le_of_ble_eq_true rfl), (Nat.le_of_ble_eq_true rfl)⟩ rfl rfl ⟨(Nat.le_of_ble_eq_true rfl), (Nat.le_of_ble_eq_true rfl)⟩ rfl (Nat.le_of_ble_eq_true rfl) rfl rfl rfl rfl (c_X3_isNumber g_q8) ?_
      refine vv_if_eq 98 48 dX5_passings_45 rfl (by decide) (fun c9 => ?_) (fun c9 => ?_)
      · rw [if_pos c9] at hf
        exact v_X5_passings_98 t_a0 k11 hk11 hf
      · rw [if_neg c9] at hf
        refine vv_aload_n 49 dX5_passings_48 rfl rfl ?_
        obtain ⟨b10, g_b10, hf⟩ := bind_s hf
        have t_b10 := (ldA_spec g_b10).2
        refine gf_RX5_15 52 dX5_passings_49 rfl t_a0 (ldA_spec g_b10).1 ?_
        refine vv_iload 54 dX5_passings_52 rfl rfl ?_
        refine vv_iconst 55 (v := 1) dX5_passings_54 rfl (by decide) ?_
        refine vv_isub 56 dX5_passings_55 rfl ?_
        obtain ⟨r11, g_r11, hf⟩ := bind_s hf
        refine vv_lald 57 dX5_passings_56 rfl t_b10 g_r11 ?_
        obtain ⟨q12, g_q12, hf⟩ := bind_s hf
        refine vv_callS 60 (st := []) (As := [.long r11]) (stk2 := [.long q12]) (cl2 := 0) (sl2 := 0) dX5_passings_57 rfl lk_RX5_43 w_839 ⟨(Nat.le_of_ble_eq_true rfl), (Nat.le_of_ble_eq_true rfl)⟩ rfl rfl ⟨(Nat.le_of_ble_eq_true rfl), (Nat.le_of_ble_eq_true rfl)⟩ rfl (Nat.le_of_ble_eq_true rfl) rfl rfl rfl rfl (c_X3_order g_q12) ?_
        refine vv_lload 62 dX5_passings_60 rfl rfl ?_
        refine vv_lcmp 63 dX5_passings_62 rfl ?_
        refine vv_if_ge 70 66 dX5_passings_63 rfl (by decide) (fun c13 => ?_) (fun c13 => ?_)
        · rw [if_pos c13] at hf
          refine vv_iconst 71 (v := 0) dX5_passings_70 rfl (by decide) ?_
          exact v_X5_passings_71 t_a0 k11 hk11 hf
        · rw [if_neg c13] at hf
          refine vv_iconst 67 (v := 1) dX5_passings_66 rfl (by decide) ?_
          refine vv_goto 71 dX5_passings_67 (by decide) ?_
          exact v_X5_passings_71 t_a0 k11 hk11 hf

theorem v_X5_passings_11 {w : Wo} {K : Kn} {a0 : Nat} {x1 : Int64} {q : Int32} {m : Mem} (t_a0 : K a0 = some (.inl 4)) : ∀ (n : Nat) (x3 : Int32) (x4 : Int64) (x6 : Int32), f_X5_passings_11 K m a0 x1 n x3 x4 x6 = some q → VV w RX5 cX5_passings 7 (some .int) rm_X5_passings false (QM w K (some (.int q)) m 0 0) K 11 [some (.ref a0), none, none, some (.int x3), some (.long x4), none, some (.int x6)] [] 0 0 m := by
  intro n
  induction n with
  | zero => intro x3 x4 x6 hf; cases hf
  | succ n ih => intro x3 x4 x6 hf; exact v_X5_passings_11B (a0 := a0) (x1 := x1) t_a0 (f_X5_passings_11 K m a0 x1 n) ih hf

set_option maxHeartbeats 4000000 in
theorem v_X5_passings_0 {w : Wo} {K : Kn} {a0 : Nat} {x1 : Int64} {q : Int32} {m : Mem} (t_a0 : K a0 = some (.inl 4)) (hf : f_X5_passings K m a0 x1 = some q) : VV w RX5 cX5_passings 7 (some .int) rm_X5_passings false (QM w K (some (.int q)) m 0 0) K 0 [some (.ref a0), some (.long x1), none, none, none, none, none] [] 0 0 m := by
  unfold f_X5_passings at hf
  refine vv_iconst 1 (v := 0) dX5_passings_0 rfl (by decide) ?_
  refine vv_istore_n 2 (L' := [some (.ref a0), some (.long x1), none, some (.int (0 : Int32)), none, none, none]) dX5_passings_1 rfl (Nat.le_of_ble_eq_true rfl) rfl ?_
  refine vv_lload_n 3 dX5_passings_2 rfl rfl ?_
  obtain ⟨q1, g_q1, hf⟩ := bind_s hf
  refine vv_callS 6 (st := []) (As := [.long x1]) (stk2 := [.long q1]) (cl2 := 0) (sl2 := 0) dX5_passings_3 rfl lk_RX5_43 w_839 ⟨(Nat.le_of_ble_eq_true rfl), (Nat.le_of_ble_eq_true rfl)⟩ rfl rfl ⟨(Nat.le_of_ble_eq_true rfl), (Nat.le_of_ble_eq_true rfl)⟩ rfl (Nat.le_of_ble_eq_true rfl) rfl rfl rfl rfl (c_X3_order g_q1) ?_
  refine vv_lstore 8 (L' := [some (.ref a0), some (.long x1), none, some (.int (0 : Int32)), some (.long q1), none, none]) dX5_passings_6 rfl (Nat.le_of_ble_eq_true rfl) rfl ?_
  refine vv_iconst 9 (v := 1) dX5_passings_8 rfl (by decide) ?_
  refine vv_istore 11 (L' := [some (.ref a0), some (.long x1), none, some (.int (0 : Int32)), some (.long q1), none, some (.int (1 : Int32))]) dX5_passings_9 rfl (Nat.le_of_ble_eq_true rfl) rfl ?_
  exact VV.lle (v_X5_passings_11 t_a0 FU _ _ _ hf) (lle_s (lle_n (lle_s (lle_s (lle_s (lle_s (lle_s lle_nil)))))))

theorem c_X5_passings {w : Wo} {K : Kn} {a0 : Nat} {x1 : Int64} {q : Int32} {m : Mem} (t_a0 : K a0 = some (.inl 4)) (hf : F_X5_passings K m a0 x1 = some q) : MM w K K yX5_passings cX5_passings 7 (some .int) rm_X5_passings [.ref a0, .long x1] m (some (.int q)) m 0 0 :=
  mm_of (ini := false) (n := 4) (plainFor_of_name (by decide)) rfl (fun h => by first | rfl | cases h) (Nat.le_of_ble_eq_true rfl) rfl (v_X5_passings_0 t_a0 hf)

set_option maxHeartbeats 4000000 in
theorem v_X8_passes_0 {w : Wo} {K : Kn} {a0 : Nat} {x1 : Int32} {x2 : Int64} {q : (Int32 × Mem)} (t_a0 : K a0 = some (.inl 7)) {m : Mem} (hf : f_X8_passes K a0 x1 x2 m = some q) : VV w RX8 cX8_passes 4 (some .int) rm_X8_passes false (QM w K (some (.int q.1)) q.2 0 0) K 0 [some (.ref a0), some (.int x1), some (.long x2), none] [] 0 0 m := by
  unfold f_X8_passes at hf
  refine vv_aload_n 1 dX8_passes_0 rfl rfl ?_
  refine vv_iload_n 2 dX8_passes_1 rfl rfl ?_
  obtain ⟨q1, g_q1, hf⟩ := bind_s hf
  refine vv_callV 5 (st := []) (As := [.int x1]) (stk2 := [.int q1]) (cl2 := 0) (sl2 := 0) dX8_passes_2 rfl lk_RX8_81 w_469 w_0 rfl t_a0 ⟨(Nat.le_of_ble_eq_true rfl), (Nat.le_of_ble_eq_true rfl)⟩ rfl rfl ⟨(Nat.le_of_ble_eq_true rfl), (Nat.le_of_ble_eq_true rfl)⟩ rfl (Nat.le_of_ble_eq_true rfl) rfl rfl rfl rfl (c_X8_isNone t_a0 g_q1) ?_
  refine vv_if_eq 11 8 dX8_passes_5 rfl (by decide) (fun c2 => ?_) (fun c2 => ?_)
  · rw [if_pos c2] at hf
    refine vv_lload_n 12 dX8_passes_11 rfl rfl ?_
    obtain ⟨q3, g_q3, hf⟩ := bind_s hf
    refine vv_callS 15 (st := []) (As := [.long x2]) (stk2 := [.int q3]) (cl2 := 0) (sl2 := 0) dX8_passes_12 rfl lk_RX8_263 w_834 ⟨(Nat.le_of_ble_eq_true rfl), (Nat.le_of_ble_eq_true rfl)⟩ rfl rfl ⟨(Nat.le_of_ble_eq_true rfl), (Nat.le_of_ble_eq_true rfl)⟩ rfl (Nat.le_of_ble_eq_true rfl) rfl rfl rfl rfl (c_X3_isNumber g_q3) ?_
    refine vv_if_eq 30 18 dX8_passes_15 rfl (by decide) (fun c4 => ?_) (fun c4 => ?_)
    · rw [if_pos c4] at hf
      refine vv_iconst 31 (v := (-1)) dX8_passes_30 rfl (by decide) ?_
      obtain rfl := Option.some.inj hf
      exact vv_iret dX8_passes_31 rfl
    · rw [if_neg c4] at hf
      refine vv_aload_n 19 dX8_passes_18 rfl rfl ?_
      refine vv_iload_n 20 dX8_passes_19 rfl rfl ?_
      obtain ⟨q5, g_q5, hf⟩ := bind_s hf
      refine vv_callV 23 (st := []) (As := [.int x1]) (stk2 := [.ref q5.1]) (cl2 := 0) (sl2 := 0) dX8_passes_20 rfl lk_RX8_176 w_694 w_11 rfl t_a0 ⟨(Nat.le_of_ble_eq_true rfl), (Nat.le_of_ble_eq_true rfl)⟩ rfl rfl ⟨(Nat.le_of_ble_eq_true rfl), (Nat.le_of_ble_eq_true rfl)⟩ rfl (Nat.le_of_ble_eq_true rfl) rfl rfl rfl rfl (c_X8_gathered t_a0 g_q5) ?_
      obtain ⟨t_6, hf⟩ := gd_s hf
      refine vv_lload_n 24 dX8_passes_23 rfl rfl ?_
      obtain ⟨q7, g_q7, hf⟩ := bind_s hf
      refine vv_callV 27 (st := []) (As := [.long x2]) (stk2 := [.int q7]) (cl2 := 0) (sl2 := 0) dX8_passes_24 rfl lk_RX8_269 w_847 w_848 rfl t_6 ⟨(Nat.le_of_ble_eq_true rfl), (Nat.le_of_ble_eq_true rfl)⟩ rfl rfl ⟨(Nat.le_of_ble_eq_true rfl), (Nat.le_of_ble_eq_true rfl)⟩ rfl (Nat.le_of_ble_eq_true rfl) rfl rfl rfl rfl (c_X5_passings t_6 g_q7) ?_
      refine vv_goto 31 dX8_passes_27 (by decide) ?_
      obtain rfl := Option.some.inj hf
      exact vv_iret dX8_passes_31 rfl
  · rw [if_neg c2] at hf
    refine vv_bipush 10 (v := (-2)) dX8_passes_8 rfl (by decide) ?_
    obtain rfl := Option.some.inj hf
    exact vv_iret dX8_passes_10 rfl

theorem c_X8_passes {w : Wo} {K : Kn} {a0 : Nat} {x1 : Int32} {x2 : Int64} {q : (Int32 × Mem)} {m : Mem} (t_a0 : K a0 = some (.inl 7)) (hf : F_X8_passes K m a0 x1 x2 = some q) : MM w K K yX8_passes cX8_passes 4 (some .int) rm_X8_passes [.ref a0, .int x1, .long x2] m (some (.int q.1)) q.2 0 0 :=
  mm_of (ini := false) (n := 0) (plainFor_of_name (by decide)) rfl (fun h => by first | rfl | cases h) (Nat.le_of_ble_eq_true rfl) rfl (v_X8_passes_0 t_a0 hf)

set_option maxHeartbeats 4000000 in
theorem v_X8_since_0 {w : Wo} {K : Kn} {a0 : Nat} {x1 : Int32} {x2 : Int32} {q : (Int32 × Mem)} (t_a0 : K a0 = some (.inl 7)) {m : Mem} (hf : f_X8_since K a0 x1 x2 m = some q) : VV w RX8 cX8_since 3 (some .int) rm_X8_since false (QM w K (some (.int q.1)) q.2 0 0) K 0 [some (.ref a0), some (.int x1), some (.int x2)] [] 0 0 m := by
  unfold f_X8_since at hf
  refine vv_aload_n 1 dX8_since_0 rfl rfl ?_
  refine vv_iload_n 2 dX8_since_1 rfl rfl ?_
  obtain ⟨q1, g_q1, hf⟩ := bind_s hf
  refine vv_callV 5 (st := []) (As := [.int x1]) (stk2 := [.int q1]) (cl2 := 0) (sl2 := 0) dX8_since_2 rfl lk_RX8_81 w_469 w_0 rfl t_a0 ⟨(Nat.le_of_ble_eq_true rfl), (Nat.le_of_ble_eq_true rfl)⟩ rfl rfl ⟨(Nat.le_of_ble_eq_true rfl), (Nat.le_of_ble_eq_true rfl)⟩ rfl (Nat.le_of_ble_eq_true rfl) rfl rfl rfl rfl (c_X8_isNone t_a0 g_q1) ?_
  refine vv_if_ne 15 8 dX8_since_5 rfl (by decide) (fun c2 => ?_) (fun c2 => ?_)
  · rw [if_pos c2] at hf
    refine vv_iload_n 9 dX8_since_8 rfl rfl ?_
    obtain ⟨q3, g_q3, hf⟩ := bind_s hf
    refine vv_callS 12 (st := []) (As := [.int x2]) (stk2 := [.int q3]) (cl2 := 0) (sl2 := 0) dX8_since_9 rfl lk_RX8_84 w_472 ⟨(Nat.le_of_ble_eq_true rfl), (Nat.le_of_ble_eq_true rfl)⟩ rfl rfl ⟨(Nat.le_of_ble_eq_true rfl), (Nat.le_of_ble_eq_true rfl)⟩ rfl (Nat.le_of_ble_eq_true rfl) rfl rfl rfl rfl (c_X8_isStamp g_q3) ?_
    refine vv_if_ne 18 15 dX8_since_12 rfl (by decide) (fun c4 => ?_) (fun c4 => ?_)
    · rw [if_pos c4] at hf
      refine vv_bipush 17 (v := (-2)) dX8_since_15 rfl (by decide) ?_
      obtain rfl := Option.some.inj hf
      exact vv_iret dX8_since_17 rfl
    · rw [if_neg c4] at hf
      refine vv_aload_n 19 dX8_since_18 rfl rfl ?_
      obtain ⟨b5, g_b5, hf⟩ := bind_s hf
      have t_b5 := (ldA_spec g_b5).2
      refine gf_RX8_11 22 dX8_since_19 rfl t_a0 (ldA_spec g_b5).1 ?_
      refine vv_iload_n 23 dX8_since_22 rfl rfl ?_
      obtain ⟨b6, g_b6, hf⟩ := bind_s hf
      have t_b6 := (alO_spec g_b6).2
      refine vv_aald3 24 dX8_since_23 rfl t_b5 g_b6 ?_
      refine vv_iconst 25 (v := 0) dX8_since_24 rfl (by decide) ?_
      refine vv_iload_n 26 dX8_since_25 rfl rfl ?_
      refine vv_aload_n 27 dX8_since_26 rfl rfl ?_
      obtain ⟨b7, g_b7, hf⟩ := bind_s hf
      have t_b7 := (ldO_spec g_b7).2
      refine gf_RX8_44 30 dX8_since_27 rfl t_a0 (ldO_spec g_b7).1 ?_
      refine vv_aload_n 31 dX8_since_30 rfl rfl ?_
      obtain ⟨b8, g_b8, hf⟩ := bind_s hf
      have t_b8 := (ldO_spec g_b8).2
      refine gf_RX8_25 34 dX8_since_31 rfl t_a0 (ldO_spec g_b8).1 ?_
      obtain ⟨q9, g_q9, hf⟩ := bind_s hf
      refine vv_callV 37 (st := []) (As := [.int (0 : Int32), .int x2, .ref b7, .ref b8]) (stk2 := []) (cl2 := 0) (sl2 := 0) dX8_since_34 rfl lk_RX8_228 w_697 w_698 rfl t_b6 ⟨(Nat.le_of_ble_eq_true rfl), (Nat.le_of_ble_eq_true rfl)⟩ rfl rfl ⟨(Nat.le_of_ble_eq_true rfl), (Nat.le_of_ble_eq_true rfl)⟩ rfl (Nat.le_of_ble_eq_true rfl) rfl rfl rfl rfl (c_X7_gather t_b6 t_b7 t_b8 g_q9) ?_
      refine vv_aload_n 38 dX8_since_37 rfl rfl ?_
      obtain ⟨b10, g_b10, hf⟩ := bind_s hf
      have t_b10 := (ldO_spec g_b10).2
      refine gf_RX8_25 41 dX8_since_38 rfl t_a0 (ldO_spec g_b10).1 ?_
      obtain ⟨q11, g_q11, hf⟩ := bind_s hf
      refine vv_callV 44 (st := []) (As := []) (stk2 := [.int q11]) (cl2 := 0) (sl2 := 0) dX8_since_41 rfl lk_RX8_250 w_807 w_808 rfl t_b10 ⟨(Nat.le_of_ble_eq_true rfl), (Nat.le_of_ble_eq_true rfl)⟩ rfl rfl ⟨(Nat.le_of_ble_eq_true rfl), (Nat.le_of_ble_eq_true rfl)⟩ rfl (Nat.le_of_ble_eq_true rfl) rfl rfl rfl rfl (c_X5_lastStamp t_b10 g_q11) ?_
      obtain rfl := Option.some.inj hf
      exact vv_iret dX8_since_44 rfl
  · rw [if_neg c2] at hf
    refine vv_bipush 17 (v := (-2)) dX8_since_15 rfl (by decide) ?_
    obtain rfl := Option.some.inj hf
    exact vv_iret dX8_since_17 rfl

theorem c_X8_since {w : Wo} {K : Kn} {a0 : Nat} {x1 : Int32} {x2 : Int32} {q : (Int32 × Mem)} {m : Mem} (t_a0 : K a0 = some (.inl 7)) (hf : F_X8_since K m a0 x1 x2 = some q) : MM w K K yX8_since cX8_since 3 (some .int) rm_X8_since [.ref a0, .int x1, .int x2] m (some (.int q.1)) q.2 0 0 :=
  mm_of (ini := false) (n := 0) (plainFor_of_name (by decide)) rfl (fun h => by first | rfl | cases h) (Nat.le_of_ble_eq_true rfl) rfl (v_X8_since_0 t_a0 hf)

set_option maxHeartbeats 4000000 in
theorem v_X3_times_101 {w : Wo} {K : Kn} {x0 : Int64} {x2 : Int32} {q : Int64} {m : Mem} {x9 : Int32} {s0 : Int64} {s1 : Int32} (hf : f_X3_times_101 x0 x2 x9 s0 s1 = some q) : VV w RX3 cX3_times 14 (some .long) rm_X3_times false (QM w K (some (.long q)) m 0 0) K 101 [some (.long x0), none, none, none, none, none, none, none, none, some (.int x9), none, none, none, none] [.int s1, .long s0] 0 0 m := by
  unfold f_X3_times_101 at hf
  refine vv_i2l 102 dX3_times_101 rfl ?_
  refine vv_lor 103 dX3_times_102 rfl ?_
  obtain ⟨z1, e_z1, hf⟩ := bd_s hf
  refine vv_lstoreE (q := 105) (v := z1) (L' := [some (.long x0), none, none, none, none, none, none, none, none, some (.int x9), none, none, some (.long z1), none]) e_z1 dX3_times_103 rfl (Nat.le_of_ble_eq_true rfl) rfl ?_
  refine vv_lload_n 106 dX3_times_105 rfl rfl ?_
  refine vv_ldc2 109 (v := (-9223372036854775808)) dX3_times_106 rfl w_909 ?_
  refine vv_land 110 dX3_times_109 rfl ?_
  refine vv_lload_n 111 dX3_times_110 rfl rfl ?_
  obtain ⟨q2, g_q2, hf⟩ := bind_s hf
  refine vv_callS 114 (st := [.long (x0 &&& (-9223372036854775808 : Int64))]) (As := [.long x0]) (stk2 := [.int q2, .long (x0 &&& (-9223372036854775808 : Int64))]) (cl2 := 0) (sl2 := 0) dX3_times_111 rfl lk_RX3_31 w_898 ⟨(Nat.le_of_ble_eq_true rfl), (Nat.le_of_ble_eq_true rfl)⟩ rfl rfl ⟨(Nat.le_of_ble_eq_true rfl), (Nat.le_of_ble_eq_true rfl)⟩ rfl (Nat.le_of_ble_eq_true rfl) rfl rfl rfl rfl (c_X3_exponent g_q2) ?_
  refine vv_bipush 116 (v := 8) dX3_times_114 rfl (by decide) ?_
  refine vv_iadd 117 dX3_times_116 rfl ?_
  refine vv_iload 119 dX3_times_117 rfl rfl ?_
  refine vv_iadd 120 dX3_times_119 rfl ?_
  refine vv_lload 122 dX3_times_120 rfl rfl ?_
  obtain ⟨q3, g_q3, hf⟩ := bind_s hf
  refine vv_callS 125 (st := []) (As := [.long (x0 &&& (-9223372036854775808 : Int64)), .int ((q2 + (8 : Int32)) + x9), .long z1]) (stk2 := [.long q3]) (cl2 := 0) (sl2 := 0) dX3_times_122 rfl lk_RX3_45 w_911 ⟨(Nat.le_of_ble_eq_true rfl), (Nat.le_of_ble_eq_true rfl)⟩ rfl rfl ⟨(Nat.le_of_ble_eq_true rfl), (Nat.le_of_ble_eq_true rfl)⟩ rfl (Nat.le_of_ble_eq_true rfl) rfl rfl rfl rfl (c_X3_roundedOff g_q3) ?_
  obtain rfl := Option.some.inj hf
  exact vv_lret dX3_times_125 rfl

set_option maxHeartbeats 4000000 in
theorem v_X3_times_0 {w : Wo} {K : Kn} {x0 : Int64} {x2 : Int32} {q : Int64} {m : Mem} (hf : f_X3_times x0 x2 = some q) : VV w RX3 cX3_times 14 (some .long) rm_X3_times false (QM w K (some (.long q)) m 0 0) K 0 [some (.long x0), none, some (.int x2), none, none, none, none, none, none, none, none, none, none, none] [] 0 0 m := by
  unfold f_X3_times at hf
  refine vv_lload_n 1 dX3_times_0 rfl rfl ?_
  obtain ⟨q1, g_q1, hf⟩ := bind_s hf
  refine vv_callS 4 (st := []) (As := [.long x0]) (stk2 := [.int q1]) (cl2 := 0) (sl2 := 0) dX3_times_1 rfl lk_RX3_25 w_864 ⟨(Nat.le_of_ble_eq_true rfl), (Nat.le_of_ble_eq_true rfl)⟩ rfl rfl ⟨(Nat.le_of_ble_eq_true rfl), (Nat.le_of_ble_eq_true rfl)⟩ rfl (Nat.le_of_ble_eq_true rfl) rfl rfl rfl rfl (c_X3_isInfinite g_q1) ?_
  refine vv_if_eq 9 7 dX3_times_4 rfl (by decide) (fun c2 => ?_) (fun c2 => ?_)
  · rw [if_pos c2] at hf
    refine vv_lload_n 10 dX3_times_9 rfl rfl ?_
    obtain ⟨q3, g_q3, hf⟩ := bind_s hf
    refine vv_callS 13 (st := []) (As := [.long x0]) (stk2 := [.long q3]) (cl2 := 0) (sl2 := 0) dX3_times_10 rfl lk_RX3_35 w_902 ⟨(Nat.le_of_ble_eq_true rfl), (Nat.le_of_ble_eq_true rfl)⟩ rfl rfl ⟨(Nat.le_of_ble_eq_true rfl), (Nat.le_of_ble_eq_true rfl)⟩ rfl (Nat.le_of_ble_eq_true rfl) rfl rfl rfl rfl (c_X3_fraction g_q3) ?_
    refine vv_lstore_n 14 (L' := [some (.long x0), none, some (.int x2), some (.long q3), none, none, none, none, none, none, none, none, none, none]) dX3_times_13 rfl (Nat.le_of_ble_eq_true rfl) rfl ?_
    refine vv_lload_n 15 dX3_times_14 rfl rfl ?_
    refine vv_ldc2 18 (v := 4294967295) dX3_times_15 rfl w_953 ?_
    refine vv_land 19 dX3_times_18 rfl ?_
    refine vv_iload_n 20 dX3_times_19 rfl rfl ?_
    refine vv_i2l 21 dX3_times_20 rfl ?_
    refine vv_lmul 22 dX3_times_21 rfl ?_
    obtain ⟨z4, e_z4, hf⟩ := bd_s hf
    refine vv_lstoreE (q := 24) (v := z4) (L' := [some (.long x0), none, some (.int x2), some (.long q3), none, some (.long z4), none, none, none, none, none, none, none, none]) e_z4 dX3_times_22 rfl (Nat.le_of_ble_eq_true rfl) rfl ?_
    refine vv_lload_n 25 dX3_times_24 rfl rfl ?_
    refine vv_bipush 27 (v := 32) dX3_times_25 rfl (by decide) ?_
    refine vv_lushr 28 dX3_times_27 rfl ?_
    refine vv_iload_n 29 dX3_times_28 rfl rfl ?_
    refine vv_i2l 30 dX3_times_29 rfl ?_
    refine vv_lmul 31 dX3_times_30 rfl ?_
    refine vv_lload 33 dX3_times_31 rfl rfl ?_
    refine vv_bipush 35 (v := 32) dX3_times_33 rfl (by decide) ?_
    refine vv_lushr 36 dX3_times_35 rfl ?_
    refine vv_ladd 37 dX3_times_36 rfl ?_
    obtain ⟨z5, e_z5, hf⟩ := bd_s hf
    refine vv_lstoreE (q := 39) (v := z5) (L' := [some (.long x0), none, some (.int x2), some (.long q3), none, some (.long z4), none, some (.long z5), none, none, none, none, none, none]) e_z5 dX3_times_37 rfl (Nat.le_of_ble_eq_true rfl) rfl ?_
    refine vv_lload 41 dX3_times_39 rfl rfl ?_
    refine vv_ldc2 44 (v := 4294967295) dX3_times_41 rfl w_953 ?_
    refine vv_land 45 dX3_times_44 rfl ?_
    obtain ⟨z6, e_z6, hf⟩ := bd_s hf
    refine vv_lstoreE (q := 47) (v := z6) (L' := [some (.long x0), none, some (.int x2), some (.long q3), none, some (.long z6), none, some (.long z5), none, none, none, none, none, none]) e_z6 dX3_times_45 rfl (Nat.le_of_ble_eq_true rfl) rfl ?_
    refine vv_iconst 48 (v := 0) dX3_times_47 rfl (by decide) ?_
    refine vv_bipush 50 (v := 64) dX3_times_48 rfl (by decide) ?_
    refine vv_lload 52 dX3_times_50 rfl rfl ?_
    obtain ⟨q7, g_q7, hf⟩ := bind_s hf
    refine vv_callS 55 (st := [.int (64 : Int32), .int (0 : Int32)]) (As := [.long z5]) (stk2 := [.int q7, .int (64 : Int32), .int (0 : Int32)]) (cl2 := 0) (sl2 := 0) dX3_times_52 rfl lk_RX3_51 w_495 ⟨(Nat.le_of_ble_eq_true rfl), (Nat.le_of_ble_eq_true rfl)⟩ rfl rfl ⟨(Nat.le_of_ble_eq_true rfl), (Nat.le_of_ble_eq_true rfl)⟩ rfl (Nat.le_of_ble_eq_true rfl) rfl rfl rfl rfl (c_J13_numberOfLeadingZeros_95d88 g_q7) ?_
    refine vv_isub 56 dX3_times_55 rfl ?_
    refine vv_bipush 58 (v := 29) dX3_times_56 rfl (by decide) ?_
    refine vv_isub 59 dX3_times_58 rfl ?_
    obtain ⟨q8, g_q8, hf⟩ := bind_s hf
    refine vv_callS 62 (st := []) (As := [.int (0 : Int32), .int (((64 : Int32) - q7) - (29 : Int32))]) (stk2 := [.int q8]) (cl2 := 0) (sl2 := 0) dX3_times_59 rfl lk_RX3_15 w_827 ⟨(Nat.le_of_ble_eq_true rfl), (Nat.le_of_ble_eq_true rfl)⟩ rfl rfl ⟨(Nat.le_of_ble_eq_true rfl), (Nat.le_of_ble_eq_true rfl)⟩ rfl (Nat.le_of_ble_eq_true rfl) rfl rfl rfl rfl (c_J9_max_7cf53 g_q8) ?_
    refine vv_istore 64 (L' := [some (.long x0), none, some (.int x2), some (.long q3), none, some (.long z6), none, some (.long z5), none, some (.int q8), none, none, none, none]) dX3_times_62 rfl (Nat.le_of_ble_eq_true rfl) rfl ?_
    refine vv_lload 66 dX3_times_64 rfl rfl ?_
    refine vv_lconst 67 (v := 1) dX3_times_66 rfl (by decide) ?_
    refine vv_iload 69 dX3_times_67 rfl rfl ?_
    refine vv_lshl 70 dX3_times_69 rfl ?_
    refine vv_lconst 71 (v := 1) dX3_times_70 rfl (by decide) ?_
    refine vv_lsub 72 dX3_times_71 rfl ?_
    refine vv_land 73 dX3_times_72 rfl ?_
    obtain ⟨z9, e_z9, hf⟩ := bd_s hf
    refine vv_lstoreE (q := 75) (v := z9) (L' := [some (.long x0), none, some (.int x2), some (.long q3), none, some (.long z6), none, some (.long z5), none, some (.int q8), some (.long z9), none, none, none]) e_z9 dX3_times_73 rfl (Nat.le_of_ble_eq_true rfl) rfl ?_
    refine vv_lload 77 dX3_times_75 rfl rfl ?_
    refine vv_bipush 79 (v := 32) dX3_times_77 rfl (by decide) ?_
    refine vv_iload 81 dX3_times_79 rfl rfl ?_
    refine vv_isub 82 dX3_times_81 rfl ?_
    refine vv_lshl 83 dX3_times_82 rfl ?_
    refine vv_lload 85 dX3_times_83 rfl rfl ?_
    refine vv_iload 87 dX3_times_85 rfl rfl ?_
    refine vv_lushr 88 dX3_times_87 rfl ?_
    refine vv_lor 89 dX3_times_88 rfl ?_
    refine vv_lload 91 dX3_times_89 rfl rfl ?_
    refine vv_lconst 92 (v := 0) dX3_times_91 rfl (by decide) ?_
    refine vv_lcmp 93 dX3_times_92 rfl ?_
    refine vv_if_ne 100 96 dX3_times_93 rfl (by decide) (fun c10 => ?_) (fun c10 => ?_)
    · rw [if_pos c10] at hf
      refine vv_iconst 97 (v := 0) dX3_times_96 rfl (by decide) ?_
      refine vv_goto 101 dX3_times_97 (by decide) ?_
      exact VV.lle (v_X3_times_101 hf) (lle_s (lle_s (lle_n (lle_n (lle_s (lle_n (lle_s (lle_n (lle_s (lle_s (lle_n (lle_s (lle_s (lle_s lle_nil))))))))))))))
    · rw [if_neg c10] at hf
      refine vv_iconst 101 (v := 1) dX3_times_100 rfl (by decide) ?_
      exact VV.lle (v_X3_times_101 hf) (lle_s (lle_s (lle_n (lle_n (lle_s (lle_n (lle_s (lle_n (lle_s (lle_s (lle_n (lle_s (lle_s (lle_s lle_nil))))))))))))))
  · rw [if_neg c2] at hf
    refine vv_lload_n 8 dX3_times_7 rfl rfl ?_
    obtain rfl := Option.some.inj hf
    exact vv_lret dX3_times_8 rfl

theorem c_X3_times {w : Wo} {K : Kn} {x0 : Int64} {x2 : Int32} {q : Int64} {m : Mem} (hf : F_X3_times x0 x2 = some q) : MM w K K yX3_times cX3_times 14 (some .long) rm_X3_times [.long x0, .int x2] m (some (.long q)) m 0 0 :=
  mm_of (ini := false) (n := 11) (plainFor_of_name (by decide)) rfl (fun h => by first | rfl | cases h) (Nat.le_of_ble_eq_true rfl) rfl (v_X3_times_0 hf)

set_option maxHeartbeats 4000000 in
theorem v_X5_surface_63 {w : Wo} {K : Kn} {a0 : Nat} {q : Int64} {m : Mem} (t_a0 : K a0 = some (.inl 4)) (k4 : Int64 → Int32 → Option Int64) (hk4 : ∀ (x1 : Int64) (x3 : Int32), k4 x1 x3 = some q → VV w RX5 cX5_surface 4 (some .long) rm_X5_surface false (QM w K (some (.long q)) m 0 0) K 4 [some (.ref a0), some (.long x1), none, some (.int x3)] [] 0 0 m) {x1 : Int64} {x3 : Int32} (hf : f_X5_surface_63 K m a0 k4 x1 x3 = some q) : VV w RX5 cX5_surface 4 (some .long) rm_X5_surface false (QM w K (some (.long q)) m 0 0) K 63 [some (.ref a0), some (.long x1), none, some (.int x3)] [] 0 0 m := by
  unfold f_X5_surface_63 at hf
  obtain ⟨z1, e_z1, hf⟩ := bd_s hf
  refine vv_iincE (q := 66) (v := z1) (c := 1) (L' := [some (.ref a0), some (.long x1), none, some (.int z1)]) e_z1 dX5_surface_63 rfl rfl (by decide) (Nat.le_of_ble_eq_true rfl) rfl ?_
  refine vv_goto 4 dX5_surface_66 (by decide) ?_
  exact hk4 _ _ hf

set_option maxHeartbeats 4000000 in
theorem v_X5_surface_69 {w : Wo} {K : Kn} {a0 : Nat} {q : Int64} {m : Mem} (t_a0 : K a0 = some (.inl 4)) {x1 : Int64} (hf : f_X5_surface_69 K m a0 x1 = some q) : VV w RX5 cX5_surface 4 (some .long) rm_X5_surface false (QM w K (some (.long q)) m 0 0) K 69 [none, some (.long x1), none, none] [] 0 0 m := by
  unfold f_X5_surface_69 at hf
  refine vv_lload_n 70 dX5_surface_69 rfl rfl ?_
  obtain rfl := Option.some.inj hf
  exact vv_lret dX5_surface_70 rfl

set_option maxHeartbeats 4000000 in
theorem v_X5_surface_4B {w : Wo} {K : Kn} {a0 : Nat} {q : Int64} {m : Mem} (t_a0 : K a0 = some (.inl 4)) (k4 : Int64 → Int32 → Option Int64) (hk4 : ∀ (x1 : Int64) (x3 : Int32), k4 x1 x3 = some q → VV w RX5 cX5_surface 4 (some .long) rm_X5_surface false (QM w K (some (.long q)) m 0 0) K 4 [some (.ref a0), some (.long x1), none, some (.int x3)] [] 0 0 m) {x1 : Int64} {x3 : Int32} (hf : f_X5_surface_4B K m a0 k4 x1 x3 = some q) : VV w RX5 cX5_surface 4 (some .long) rm_X5_surface false (QM w K (some (.long q)) m 0 0) K 4 [some (.ref a0), some (.long x1), none, some (.int x3)] [] 0 0 m := by
  unfold f_X5_surface_4B at hf
  refine vv_iload_n 5 dX5_surface_4 rfl rfl ?_
  refine vv_aload_n 6 dX5_surface_5 rfl rfl ?_
  refine gf_RX5_19 9 dX5_surface_6 rfl t_a0 ?_
  refine vv_iconst 10 (v := 1) dX5_surface_9 rfl (by decide) ?_
  refine vv_isub 11 dX5_surface_10 rfl ?_
  refine vv_icmp_ge 69 14 dX5_surface_11 rfl (by decide) (fun c1 => ?_) (fun c1 => ?_)
  · rw [if_pos c1] at hf
    exact VV.lle (v_X5_surface_69 t_a0 hf) (lle_n (lle_s (lle_s (lle_n lle_nil))))
  · rw [if_neg c1] at hf
    refine vv_lload_n 15 dX5_surface_14 rfl rfl ?_
    refine vv_ldc2 18 (v := 9221120237041090560) dX5_surface_15 rfl w_891 ?_
    refine vv_lcmp 19 dX5_surface_18 rfl ?_
    refine vv_if_eq 69 22 dX5_surface_19 rfl (by decide) (fun c2 => ?_) (fun c2 => ?_)
    · rw [if_pos c2] at hf
      exact VV.lle (v_X5_surface_69 t_a0 hf) (lle_n (lle_s (lle_s (lle_n lle_nil))))
    · rw [if_neg c2] at hf
      refine vv_aload_n 23 dX5_surface_22 rfl rfl ?_
      obtain ⟨b3, g_b3, hf⟩ := bind_s hf
      have t_b3 := (ldA_spec g_b3).2
      refine gf_RX5_15 26 dX5_surface_23 rfl t_a0 (ldA_spec g_b3).1 ?_
      refine vv_iload_n 27 dX5_surface_26 rfl rfl ?_
      obtain ⟨r4, g_r4, hf⟩ := bind_s hf
      refine vv_lald 28 dX5_surface_27 rfl t_b3 g_r4 ?_
      obtain ⟨q5, g_q5, hf⟩ := bind_s hf
      refine vv_callS 31 (st := []) (As := [.long r4]) (stk2 := [.int q5]) (cl2 := 0) (sl2 := 0) dX5_surface_28 rfl lk_RX5_37 w_834 ⟨(Nat.le_of_ble_eq_true rfl), (Nat.le_of_ble_eq_true rfl)⟩ rfl rfl ⟨(Nat.le_of_ble_eq_true rfl), (Nat.le_of_ble_eq_true rfl)⟩ rfl (Nat.le_of_ble_eq_true rfl) rfl rfl rfl rfl (c_X3_isNumber g_q5) ?_
      refine vv_if_eq 63 34 dX5_surface_31 rfl (by decide) (fun c6 => ?_) (fun c6 => ?_)
      · rw [if_pos c6] at hf
        exact v_X5_surface_63 t_a0 k4 hk4 hf
      · rw [if_neg c6] at hf
        refine vv_lload_n 35 dX5_surface_34 rfl rfl ?_
        refine vv_aload_n 36 dX5_surface_35 rfl rfl ?_
        obtain ⟨b7, g_b7, hf⟩ := bind_s hf
        have t_b7 := (ldA_spec g_b7).2
        refine gf_RX5_15 39 dX5_surface_36 rfl t_a0 (ldA_spec g_b7).1 ?_
        refine vv_iload_n 40 dX5_surface_39 rfl rfl ?_
        obtain ⟨r8, g_r8, hf⟩ := bind_s hf
        refine vv_lald 41 dX5_surface_40 rfl t_b7 g_r8 ?_
        refine vv_aload_n 42 dX5_surface_41 rfl rfl ?_
        obtain ⟨b9, g_b9, hf⟩ := bind_s hf
        have t_b9 := (ldA_spec g_b9).2
        refine gf_RX5_9 45 dX5_surface_42 rfl t_a0 (ldA_spec g_b9).1 ?_
        refine vv_iload_n 46 dX5_surface_45 rfl rfl ?_
        refine vv_iconst 47 (v := 1) dX5_surface_46 rfl (by decide) ?_
        refine vv_iadd 48 dX5_surface_47 rfl ?_
        obtain ⟨r10, g_r10, hf⟩ := bind_s hf
        refine vv_iald 49 dX5_surface_48 rfl t_b9 g_r10 ?_
        refine vv_aload_n 50 dX5_surface_49 rfl rfl ?_
        obtain ⟨b11, g_b11, hf⟩ := bind_s hf
        have t_b11 := (ldA_spec g_b11).2
        refine gf_RX5_9 53 dX5_surface_50 rfl t_a0 (ldA_spec g_b11).1 ?_
        refine vv_iload_n 54 dX5_surface_53 rfl rfl ?_
        obtain ⟨r12, g_r12, hf⟩ := bind_s hf
        refine vv_iald 55 dX5_surface_54 rfl t_b11 g_r12 ?_
        refine vv_isub 56 dX5_surface_55 rfl ?_
        obtain ⟨q13, g_q13, hf⟩ := bind_s hf
        refine vv_callS 59 (st := [.long x1]) (As := [.long r8, .int (r10 - r12)]) (stk2 := [.long q13, .long x1]) (cl2 := 0) (sl2 := 0) dX5_surface_56 rfl lk_RX5_78 w_951 ⟨(Nat.le_of_ble_eq_true rfl), (Nat.le_of_ble_eq_true rfl)⟩ rfl rfl ⟨(Nat.le_of_ble_eq_true rfl), (Nat.le_of_ble_eq_true rfl)⟩ rfl (Nat.le_of_ble_eq_true rfl) rfl rfl rfl rfl (c_X3_times g_q13) ?_
        obtain ⟨q14, g_q14, hf⟩ := bind_s hf
        refine vv_callS 62 (st := []) (As := [.long x1, .long q13]) (stk2 := [.long q14]) (cl2 := 0) (sl2 := 0) dX5_surface_59 rfl lk_RX5_74 w_893 ⟨(Nat.le_of_ble_eq_true rfl), (Nat.le_of_ble_eq_true rfl)⟩ rfl rfl ⟨(Nat.le_of_ble_eq_true rfl), (Nat.le_of_ble_eq_true rfl)⟩ rfl (Nat.le_of_ble_eq_true rfl) rfl rfl rfl rfl (c_X3_plus g_q14) ?_
        refine vv_lstore_n 63 (L' := [some (.ref a0), some (.long q14), none, some (.int x3)]) dX5_surface_62 rfl (Nat.le_of_ble_eq_true rfl) rfl ?_
        exact v_X5_surface_63 t_a0 k4 hk4 hf

theorem v_X5_surface_4 {w : Wo} {K : Kn} {a0 : Nat} {q : Int64} {m : Mem} (t_a0 : K a0 = some (.inl 4)) : ∀ (n : Nat) (x1 : Int64) (x3 : Int32), f_X5_surface_4 K m a0 n x1 x3 = some q → VV w RX5 cX5_surface 4 (some .long) rm_X5_surface false (QM w K (some (.long q)) m 0 0) K 4 [some (.ref a0), some (.long x1), none, some (.int x3)] [] 0 0 m := by
  intro n
  induction n with
  | zero => intro x1 x3 hf; cases hf
  | succ n ih => intro x1 x3 hf; exact v_X5_surface_4B (a0 := a0) t_a0 (f_X5_surface_4 K m a0 n) ih hf

set_option maxHeartbeats 4000000 in
theorem v_X5_surface_0 {w : Wo} {K : Kn} {a0 : Nat} {q : Int64} {m : Mem} (t_a0 : K a0 = some (.inl 4)) (hf : f_X5_surface K m a0 = some q) : VV w RX5 cX5_surface 4 (some .long) rm_X5_surface false (QM w K (some (.long q)) m 0 0) K 0 [some (.ref a0), none, none, none] [] 0 0 m := by
  unfold f_X5_surface at hf
  refine vv_lconst 1 (v := 0) dX5_surface_0 rfl (by decide) ?_
  refine vv_lstore_n 2 (L' := [some (.ref a0), some (.long (0 : Int64)), none, none]) dX5_surface_1 rfl (Nat.le_of_ble_eq_true rfl) rfl ?_
  refine vv_iconst 3 (v := 0) dX5_surface_2 rfl (by decide) ?_
  refine vv_istore_n 4 (L' := [some (.ref a0), some (.long (0 : Int64)), none, some (.int (0 : Int32))]) dX5_surface_3 rfl (Nat.le_of_ble_eq_true rfl) rfl ?_
  exact v_X5_surface_4 t_a0 FU _ _ hf

theorem c_X5_surface {w : Wo} {K : Kn} {a0 : Nat} {q : Int64} {m : Mem} (t_a0 : K a0 = some (.inl 4)) (hf : F_X5_surface K m a0 = some q) : MM w K K yX5_surface cX5_surface 4 (some .long) rm_X5_surface [.ref a0] m (some (.long q)) m 0 0 :=
  mm_of (ini := false) (n := 3) (plainFor_of_name (by decide)) rfl (fun h => by first | rfl | cases h) (Nat.le_of_ble_eq_true rfl) rfl (v_X5_surface_0 t_a0 hf)

set_option maxHeartbeats 4000000 in
theorem v_X8_area_0 {w : Wo} {K : Kn} {a0 : Nat} {x1 : Int32} {x2 : Int32} {x3 : Int32} {q : (Int64 × Mem)} (t_a0 : K a0 = some (.inl 7)) {m : Mem} (hf : f_X8_area K a0 x1 x2 x3 m = some q) : VV w RX8 cX8_area 4 (some .long) rm_X8_area false (QM w K (some (.long q.1)) q.2 0 0) K 0 [some (.ref a0), some (.int x1), some (.int x2), some (.int x3)] [] 0 0 m := by
  unfold f_X8_area at hf
  refine vv_aload_n 1 dX8_area_0 rfl rfl ?_
  refine vv_iload_n 2 dX8_area_1 rfl rfl ?_
  obtain ⟨q1, g_q1, hf⟩ := bind_s hf
  refine vv_callV 5 (st := []) (As := [.int x1]) (stk2 := [.int q1]) (cl2 := 0) (sl2 := 0) dX8_area_2 rfl lk_RX8_81 w_469 w_0 rfl t_a0 ⟨(Nat.le_of_ble_eq_true rfl), (Nat.le_of_ble_eq_true rfl)⟩ rfl rfl ⟨(Nat.le_of_ble_eq_true rfl), (Nat.le_of_ble_eq_true rfl)⟩ rfl (Nat.le_of_ble_eq_true rfl) rfl rfl rfl rfl (c_X8_isNone t_a0 g_q1) ?_
  refine vv_if_ne 13 8 dX8_area_5 rfl (by decide) (fun c2 => ?_) (fun c2 => ?_)
  · rw [if_pos c2] at hf
    refine vv_iload_n 9 dX8_area_8 rfl rfl ?_
    refine vv_iload_n 10 dX8_area_9 rfl rfl ?_
    refine vv_icmp_le 17 13 dX8_area_10 rfl (by decide) (fun c3 => ?_) (fun c3 => ?_)
    · rw [if_pos c3] at hf
      refine vv_aload_n 18 dX8_area_17 rfl rfl ?_
      obtain ⟨b4, g_b4, hf⟩ := bind_s hf
      have t_b4 := (ldA_spec g_b4).2
      refine gf_RX8_11 21 dX8_area_18 rfl t_a0 (ldA_spec g_b4).1 ?_
      refine vv_iload_n 22 dX8_area_21 rfl rfl ?_
      obtain ⟨b5, g_b5, hf⟩ := bind_s hf
      have t_b5 := (alO_spec g_b5).2
      refine vv_aald3 23 dX8_area_22 rfl t_b4 g_b5 ?_
      refine vv_iload_n 24 dX8_area_23 rfl rfl ?_
      refine vv_iload_n 25 dX8_area_24 rfl rfl ?_
      refine vv_aload_n 26 dX8_area_25 rfl rfl ?_
      obtain ⟨b6, g_b6, hf⟩ := bind_s hf
      have t_b6 := (ldO_spec g_b6).2
      refine gf_RX8_44 29 dX8_area_26 rfl t_a0 (ldO_spec g_b6).1 ?_
      refine vv_aload_n 30 dX8_area_29 rfl rfl ?_
      obtain ⟨b7, g_b7, hf⟩ := bind_s hf
      have t_b7 := (ldO_spec g_b7).2
      refine gf_RX8_25 33 dX8_area_30 rfl t_a0 (ldO_spec g_b7).1 ?_
      obtain ⟨q8, g_q8, hf⟩ := bind_s hf
      refine vv_callV 36 (st := []) (As := [.int x2, .int x3, .ref b6, .ref b7]) (stk2 := []) (cl2 := 0) (sl2 := 0) dX8_area_33 rfl lk_RX8_228 w_697 w_698 rfl t_b5 ⟨(Nat.le_of_ble_eq_true rfl), (Nat.le_of_ble_eq_true rfl)⟩ rfl rfl ⟨(Nat.le_of_ble_eq_true rfl), (Nat.le_of_ble_eq_true rfl)⟩ rfl (Nat.le_of_ble_eq_true rfl) rfl rfl rfl rfl (c_X7_gather t_b5 t_b6 t_b7 g_q8) ?_
      refine vv_aload_n 37 dX8_area_36 rfl rfl ?_
      obtain ⟨b9, g_b9, hf⟩ := bind_s hf
      have t_b9 := (ldO_spec g_b9).2
      refine gf_RX8_25 40 dX8_area_37 rfl t_a0 (ldO_spec g_b9).1 ?_
      obtain ⟨q10, g_q10, hf⟩ := bind_s hf
      refine vv_callV 43 (st := []) (As := []) (stk2 := [.long q10]) (cl2 := 0) (sl2 := 0) dX8_area_40 rfl lk_RX8_302 w_947 w_948 rfl t_b9 ⟨(Nat.le_of_ble_eq_true rfl), (Nat.le_of_ble_eq_true rfl)⟩ rfl rfl ⟨(Nat.le_of_ble_eq_true rfl), (Nat.le_of_ble_eq_true rfl)⟩ rfl (Nat.le_of_ble_eq_true rfl) rfl rfl rfl rfl (c_X5_surface t_b9 g_q10) ?_
      obtain rfl := Option.some.inj hf
      exact vv_lret dX8_area_43 rfl
    · rw [if_neg c3] at hf
      refine vv_ldc2 16 (v := 9221120237041090560) dX8_area_13 rfl w_870 ?_
      obtain rfl := Option.some.inj hf
      exact vv_lret dX8_area_16 rfl
  · rw [if_neg c2] at hf
    refine vv_ldc2 16 (v := 9221120237041090560) dX8_area_13 rfl w_870 ?_
    obtain rfl := Option.some.inj hf
    exact vv_lret dX8_area_16 rfl

theorem c_X8_area {w : Wo} {K : Kn} {a0 : Nat} {x1 : Int32} {x2 : Int32} {x3 : Int32} {q : (Int64 × Mem)} {m : Mem} (t_a0 : K a0 = some (.inl 7)) (hf : F_X8_area K m a0 x1 x2 x3 = some q) : MM w K K yX8_area cX8_area 4 (some .long) rm_X8_area [.ref a0, .int x1, .int x2, .int x3] m (some (.long q.1)) q.2 0 0 :=
  mm_of (ini := false) (n := 0) (plainFor_of_name (by decide)) rfl (fun h => by first | rfl | cases h) (Nat.le_of_ble_eq_true rfl) rfl (v_X8_area_0 t_a0 hf)

set_option maxHeartbeats 4000000 in
theorem v_X8_feed_0 {w : Wo} {K : Kn} {a0 : Nat} {x1 : Int32} {x2 : Int32} {x3 : Int32} {x4 : Int32} {x5 : Int32} {q : (Int32 × Mem)} (t_a0 : K a0 = some (.inl 7)) {m : Mem} (hf : f_X8_feed K a0 x1 x2 x3 x4 x5 m = some q) : VV w RX8 cX8_feed 6 (some .int) rm_X8_feed false (QM w K (some (.int q.1)) q.2 0 0) K 0 [some (.ref a0), some (.int x1), some (.int x2), some (.int x3), some (.int x4), some (.int x5)] [] 0 0 m := by
  unfold f_X8_feed at hf
  refine vv_aload_n 1 dX8_feed_0 rfl rfl ?_
  obtain ⟨b1, g_b1, hf⟩ := bind_s hf
  have t_b1 := (ldO_spec g_b1).2
  refine gf_RX8_67 4 dX8_feed_1 rfl t_a0 (ldO_spec g_b1).1 ?_
  refine gf_RX8_121 7 dX8_feed_4 rfl t_b1 ?_
  refine vv_bipush 9 (v := 20) dX8_feed_7 rfl (by decide) ?_
  refine vv_iadd 10 dX8_feed_9 rfl ?_
  refine vv_sipush 13 (v := 200) dX8_feed_10 rfl (by decide) ?_
  refine vv_icmp_le 18 16 dX8_feed_13 rfl (by decide) (fun c2 => ?_) (fun c2 => ?_)
  · rw [if_pos c2] at hf
    refine vv_aload_n 19 dX8_feed_18 rfl rfl ?_
    obtain ⟨b3, g_b3, hf⟩ := bind_s hf
    have t_b3 := (ldO_spec g_b3).2
    refine gf_RX8_67 22 dX8_feed_19 rfl t_a0 (ldO_spec g_b3).1 ?_
    refine vv_iload_n 23 dX8_feed_22 rfl rfl ?_
    obtain ⟨q4, g_q4, hf⟩ := bind_s hf
    refine vv_callV 26 (st := []) (As := [.int x1]) (stk2 := []) (cl2 := 0) (sl2 := 0) dX8_feed_23 rfl lk_RX8_130 w_559 w_560 rfl t_b3 ⟨(Nat.le_of_ble_eq_true rfl), (Nat.le_of_ble_eq_true rfl)⟩ rfl rfl ⟨(Nat.le_of_ble_eq_true rfl), (Nat.le_of_ble_eq_true rfl)⟩ rfl (Nat.le_of_ble_eq_true rfl) rfl rfl rfl rfl (c_X0_append t_b3 g_q4) ?_
    refine vv_aload_n 27 dX8_feed_26 rfl rfl ?_
    obtain ⟨b5, g_b5, hf⟩ := bind_s hf
    have t_b5 := (ldO_spec g_b5).2
    refine gf_RX8_67 30 dX8_feed_27 rfl t_a0 (ldO_spec g_b5).1 ?_
    refine vv_iload_n 31 dX8_feed_30 rfl rfl ?_
    obtain ⟨q6, g_q6, hf⟩ := bind_s hf
    refine vv_callV 34 (st := []) (As := [.int x2]) (stk2 := []) (cl2 := 0) (sl2 := 0) dX8_feed_31 rfl lk_RX8_130 w_559 w_560 rfl t_b5 ⟨(Nat.le_of_ble_eq_true rfl), (Nat.le_of_ble_eq_true rfl)⟩ rfl rfl ⟨(Nat.le_of_ble_eq_true rfl), (Nat.le_of_ble_eq_true rfl)⟩ rfl (Nat.le_of_ble_eq_true rfl) rfl rfl rfl rfl (c_X0_append t_b5 g_q6) ?_
    refine vv_aload_n 35 dX8_feed_34 rfl rfl ?_
    obtain ⟨b7, g_b7, hf⟩ := bind_s hf
    have t_b7 := (ldO_spec g_b7).2
    refine gf_RX8_67 38 dX8_feed_35 rfl t_a0 (ldO_spec g_b7).1 ?_
    refine vv_iload_n 39 dX8_feed_38 rfl rfl ?_
    obtain ⟨q8, g_q8, hf⟩ := bind_s hf
    refine vv_callV 42 (st := []) (As := [.int x3]) (stk2 := []) (cl2 := 0) (sl2 := 0) dX8_feed_39 rfl lk_RX8_130 w_559 w_560 rfl t_b7 ⟨(Nat.le_of_ble_eq_true rfl), (Nat.le_of_ble_eq_true rfl)⟩ rfl rfl ⟨(Nat.le_of_ble_eq_true rfl), (Nat.le_of_ble_eq_true rfl)⟩ rfl (Nat.le_of_ble_eq_true rfl) rfl rfl rfl rfl (c_X0_append t_b7 g_q8) ?_
    refine vv_aload_n 43 dX8_feed_42 rfl rfl ?_
    obtain ⟨b9, g_b9, hf⟩ := bind_s hf
    have t_b9 := (ldO_spec g_b9).2
    refine gf_RX8_67 46 dX8_feed_43 rfl t_a0 (ldO_spec g_b9).1 ?_
    refine vv_iload 48 dX8_feed_46 rfl rfl ?_
    obtain ⟨q10, g_q10, hf⟩ := bind_s hf
    refine vv_callV 51 (st := []) (As := [.int x4]) (stk2 := []) (cl2 := 0) (sl2 := 0) dX8_feed_48 rfl lk_RX8_130 w_559 w_560 rfl t_b9 ⟨(Nat.le_of_ble_eq_true rfl), (Nat.le_of_ble_eq_true rfl)⟩ rfl rfl ⟨(Nat.le_of_ble_eq_true rfl), (Nat.le_of_ble_eq_true rfl)⟩ rfl (Nat.le_of_ble_eq_true rfl) rfl rfl rfl rfl (c_X0_append t_b9 g_q10) ?_
    refine vv_aload_n 52 dX8_feed_51 rfl rfl ?_
    obtain ⟨b11, g_b11, hf⟩ := bind_s hf
    have t_b11 := (ldO_spec g_b11).2
    refine gf_RX8_67 55 dX8_feed_52 rfl t_a0 (ldO_spec g_b11).1 ?_
    refine vv_iload 57 dX8_feed_55 rfl rfl ?_
    obtain ⟨q12, g_q12, hf⟩ := bind_s hf
    refine vv_callV 60 (st := []) (As := [.int x5]) (stk2 := []) (cl2 := 0) (sl2 := 0) dX8_feed_57 rfl lk_RX8_130 w_559 w_560 rfl t_b11 ⟨(Nat.le_of_ble_eq_true rfl), (Nat.le_of_ble_eq_true rfl)⟩ rfl rfl ⟨(Nat.le_of_ble_eq_true rfl), (Nat.le_of_ble_eq_true rfl)⟩ rfl (Nat.le_of_ble_eq_true rfl) rfl rfl rfl rfl (c_X0_append t_b11 g_q12) ?_
    refine vv_aload_n 61 dX8_feed_60 rfl rfl ?_
    obtain ⟨b13, g_b13, hf⟩ := bind_s hf
    have t_b13 := (ldO_spec g_b13).2
    refine gf_RX8_67 64 dX8_feed_61 rfl t_a0 (ldO_spec g_b13).1 ?_
    refine gf_RX8_121 67 dX8_feed_64 rfl t_b13 ?_
    obtain rfl := Option.some.inj hf
    exact vv_iret dX8_feed_67 rfl
  · rw [if_neg c2] at hf
    refine vv_iconst 17 (v := (-1)) dX8_feed_16 rfl (by decide) ?_
    obtain rfl := Option.some.inj hf
    exact vv_iret dX8_feed_17 rfl

theorem c_X8_feed {w : Wo} {K : Kn} {a0 : Nat} {x1 : Int32} {x2 : Int32} {x3 : Int32} {x4 : Int32} {x5 : Int32} {q : (Int32 × Mem)} {m : Mem} (t_a0 : K a0 = some (.inl 7)) (hf : F_X8_feed K m a0 x1 x2 x3 x4 x5 = some q) : MM w K K yX8_feed cX8_feed 6 (some .int) rm_X8_feed [.ref a0, .int x1, .int x2, .int x3, .int x4, .int x5] m (some (.int q.1)) q.2 0 0 :=
  mm_of (ini := false) (n := 0) (plainFor_of_name (by decide)) rfl (fun h => by first | rfl | cases h) (Nat.le_of_ble_eq_true rfl) rfl (v_X8_feed_0 t_a0 hf)

set_option maxHeartbeats 4000000 in
theorem v_X8_end_0 {w : Wo} {K : Kn} {a0 : Nat} {x1 : Int32} {q : (Int32 × Mem)} (t_a0 : K a0 = some (.inl 7)) {m : Mem} (hf : f_X8_end K a0 x1 m = some q) : VV w RX8 cX8_end 2 (some .int) rm_X8_end false (QM w K (some (.int q.1)) q.2 0 0) K 0 [some (.ref a0), some (.int x1)] [] 0 0 m := by
  unfold f_X8_end at hf
  refine vv_iload_n 1 dX8_end_0 rfl rfl ?_
  refine vv_if_lt 15 4 dX8_end_1 rfl (by decide) (fun c1 => ?_) (fun c1 => ?_)
  · rw [if_pos c1] at hf
    refine vv_iconst 16 (v := (-1)) dX8_end_15 rfl (by decide) ?_
    obtain rfl := Option.some.inj hf
    exact vv_iret dX8_end_16 rfl
  · rw [if_neg c1] at hf
    refine vv_iload_n 5 dX8_end_4 rfl rfl ?_
    refine vv_aload_n 6 dX8_end_5 rfl rfl ?_
    obtain ⟨b2, g_b2, hf⟩ := bind_s hf
    have t_b2 := (ldO_spec g_b2).2
    refine gf_RX8_67 9 dX8_end_6 rfl t_a0 (ldO_spec g_b2).1 ?_
    refine gf_RX8_121 12 dX8_end_9 rfl t_b2 ?_
    refine vv_icmp_le 17 15 dX8_end_12 rfl (by decide) (fun c3 => ?_) (fun c3 => ?_)
    · rw [if_pos c3] at hf
      refine vv_aload_n 18 dX8_end_17 rfl rfl ?_
      obtain ⟨b4, g_b4, hf⟩ := bind_s hf
      have t_b4 := (ldO_spec g_b4).2
      refine gf_RX8_67 21 dX8_end_18 rfl t_a0 (ldO_spec g_b4).1 ?_
      refine vv_iload_n 22 dX8_end_21 rfl rfl ?_
      obtain ⟨m5, e_m5, hf⟩ := bd_s hf
      refine pf_RX8_121 25 dX8_end_22 rfl t_b4 e_m5 ?_
      refine vv_iload_n 26 dX8_end_25 rfl rfl ?_
      obtain rfl := Option.some.inj hf
      exact vv_iret dX8_end_26 rfl
    · rw [if_neg c3] at hf
      refine vv_iconst 16 (v := (-1)) dX8_end_15 rfl (by decide) ?_
      obtain rfl := Option.some.inj hf
      exact vv_iret dX8_end_16 rfl

theorem c_X8_end {w : Wo} {K : Kn} {a0 : Nat} {x1 : Int32} {q : (Int32 × Mem)} {m : Mem} (t_a0 : K a0 = some (.inl 7)) (hf : F_X8_end K m a0 x1 = some q) : MM w K K yX8_end cX8_end 2 (some .int) rm_X8_end [.ref a0, .int x1] m (some (.int q.1)) q.2 0 0 :=
  mm_of (ini := false) (n := 0) (plainFor_of_name (by decide)) rfl (fun h => by first | rfl | cases h) (Nat.le_of_ble_eq_true rfl) rfl (v_X8_end_0 t_a0 hf)

set_option maxHeartbeats 4000000 in
theorem v_X7_take_0 {w : Wo} {K : Kn} {a0 : Nat} {a1 : Nat} {q : (Int32 × Mem)} (t_a0 : K a0 = some (.inl 6)) (t_a1 : K a1 = some (.inl 0)) {m : Mem} (hf : f_X7_take K a0 a1 m = some q) : VV w RX7 cX7_take 2 (some .int) rm_X7_take false (QM w K (some (.int q.1)) q.2 0 0) K 0 [some (.ref a0), some (.ref a1)] [] 0 0 m := by
  unfold f_X7_take at hf
  refine vv_aload_n 1 dX7_take_0 rfl rfl ?_
  refine gf_RX7_45 4 dX7_take_1 rfl t_a0 ?_
  refine vv_bipush 6 (v := 16) dX7_take_4 rfl (by decide) ?_
  refine vv_icmp_lt 12 9 dX7_take_6 rfl (by decide) (fun c1 => ?_) (fun c1 => ?_)
  · rw [if_pos c1] at hf
    refine vv_aload_n 13 dX7_take_12 rfl rfl ?_
    obtain ⟨q2, g_q2, hf⟩ := bind_s hf
    refine vv_callV 16 (st := []) (As := []) (stk2 := []) (cl2 := 0) (sl2 := 0) dX7_take_13 rfl lk_RX7_90 w_544 w_3 rfl t_a0 ⟨(Nat.le_of_ble_eq_true rfl), (Nat.le_of_ble_eq_true rfl)⟩ rfl rfl ⟨(Nat.le_of_ble_eq_true rfl), (Nat.le_of_ble_eq_true rfl)⟩ rfl (Nat.le_of_ble_eq_true rfl) rfl rfl rfl rfl (c_X7_closeOpen t_a0 g_q2) ?_
    refine vv_aload_n 17 dX7_take_16 rfl rfl ?_
    obtain ⟨b3, g_b3, hf⟩ := bind_s hf
    have t_b3 := (ldA_spec g_b3).2
    refine gf_RX7_11 20 dX7_take_17 rfl t_a0 (ldA_spec g_b3).1 ?_
    refine vv_aload_n 21 dX7_take_20 rfl rfl ?_
    refine gf_RX7_45 24 dX7_take_21 rfl t_a0 ?_
    obtain ⟨b4, g_b4, hf⟩ := bind_s hf
    have t_b4 := (alO_spec g_b4).2
    refine vv_aald4 25 dX7_take_24 rfl t_b3 g_b4 ?_
    refine vv_aload_n 26 dX7_take_25 rfl rfl ?_
    obtain ⟨q5, g_q5, hf⟩ := bind_s hf
    refine vv_callV 29 (st := []) (As := [.ref a1]) (stk2 := []) (cl2 := 0) (sl2 := 0) dX7_take_26 rfl lk_RX7_56 w_670 w_671 rfl t_b4 ⟨(Nat.le_of_ble_eq_true rfl), (Nat.le_of_ble_eq_true rfl)⟩ rfl rfl ⟨(Nat.le_of_ble_eq_true rfl), (Nat.le_of_ble_eq_true rfl)⟩ rfl (Nat.le_of_ble_eq_true rfl) rfl rfl rfl rfl (c_X0_become t_b4 t_a1 g_q5) ?_
    refine vv_aload_n 30 dX7_take_29 rfl rfl ?_
    refine vv_dup 31 dX7_take_30 rfl rfl ?_
    refine gf_RX7_45 34 dX7_take_31 rfl t_a0 ?_
    refine vv_iconst 35 (v := 1) dX7_take_34 rfl (by decide) ?_
    refine vv_iadd 36 dX7_take_35 rfl ?_
    obtain ⟨m6, e_m6, hf⟩ := bd_s hf
    refine pf_RX7_45 39 dX7_take_36 rfl t_a0 e_m6 ?_
    refine vv_aload_n 40 dX7_take_39 rfl rfl ?_
    refine vv_aload_n 41 dX7_take_40 rfl rfl ?_
    refine gf_RX7_97 44 dX7_take_41 rfl t_a1 ?_
    obtain ⟨m7, e_m7, hf⟩ := bd_s hf
    refine pf_RX7_33 47 dX7_take_44 rfl t_a0 e_m7 ?_
    refine vv_aload_n 48 dX7_take_47 rfl rfl ?_
    refine gf_RX7_45 51 dX7_take_48 rfl t_a0 ?_
    refine vv_iconst 52 (v := 1) dX7_take_51 rfl (by decide) ?_
    refine vv_isub 53 dX7_take_52 rfl ?_
    obtain rfl := Option.some.inj hf
    exact vv_iret dX7_take_53 rfl
  · rw [if_neg c1] at hf
    refine vv_bipush 11 (v := (-4)) dX7_take_9 rfl (by decide) ?_
    obtain rfl := Option.some.inj hf
    exact vv_iret dX7_take_11 rfl

theorem c_X7_take {w : Wo} {K : Kn} {a0 : Nat} {a1 : Nat} {q : (Int32 × Mem)} {m : Mem} (t_a0 : K a0 = some (.inl 6)) (t_a1 : K a1 = some (.inl 0)) (hf : F_X7_take K m a0 a1 = some q) : MM w K K yX7_take cX7_take 2 (some .int) rm_X7_take [.ref a0, .ref a1] m (some (.int q.1)) q.2 0 0 :=
  mm_of (ini := false) (n := 0) (plainFor_of_name (by decide)) rfl (fun h => by first | rfl | cases h) (Nat.le_of_ble_eq_true rfl) rfl (v_X7_take_0 t_a0 t_a1 hf)

set_option maxHeartbeats 4000000 in
theorem v_X8_takenBy_0 {w : Wo} {K : Kn} {a0 : Nat} {a1 : Nat} {q : (Int32 × Mem)} (t_a0 : K a0 = some (.inl 7)) (t_a1 : K a1 = some (.inl 6)) {m : Mem} (hf : f_X8_takenBy K a0 a1 m = some q) : VV w RX8 cX8_takenBy 3 (some .int) rm_X8_takenBy false (QM w K (some (.int q.1)) q.2 0 0) K 0 [some (.ref a0), some (.ref a1), none] [] 0 0 m := by
  unfold f_X8_takenBy at hf
  refine vv_aload_n 1 dX8_takenBy_0 rfl rfl ?_
  obtain ⟨b1, g_b1, hf⟩ := bind_s hf
  have t_b1 := (ldO_spec g_b1).2
  refine gf_RX8_44 4 dX8_takenBy_1 rfl t_a0 (ldO_spec g_b1).1 ?_
  refine vv_aload_n 5 dX8_takenBy_4 rfl rfl ?_
  obtain ⟨b2, g_b2, hf⟩ := bind_s hf
  have t_b2 := (ldO_spec g_b2).2
  refine gf_RX8_67 8 dX8_takenBy_5 rfl t_a0 (ldO_spec g_b2).1 ?_
  refine vv_iconst 9 (v := 0) dX8_takenBy_8 rfl (by decide) ?_
  obtain ⟨q3, g_q3, hf⟩ := bind_s hf
  refine vv_callV 12 (st := []) (As := [.ref b2, .int (0 : Int32)]) (stk2 := [.int q3.1]) (cl2 := 0) (sl2 := 0) dX8_takenBy_9 rfl lk_RX8_141 w_623 w_624 rfl t_b1 ⟨(Nat.le_of_ble_eq_true rfl), (Nat.le_of_ble_eq_true rfl)⟩ rfl rfl ⟨(Nat.le_of_ble_eq_true rfl), (Nat.le_of_ble_eq_true rfl)⟩ rfl (Nat.le_of_ble_eq_true rfl) rfl rfl rfl rfl (c_X6_examine t_b1 t_b2 g_q3) ?_
  obtain ⟨z4, e_z4, hf⟩ := bd_s hf
  refine vv_istore_nE (q := 13) (v := z4) (L' := [some (.ref a0), some (.ref a1), some (.int z4)]) e_z4 dX8_takenBy_12 rfl (Nat.le_of_ble_eq_true rfl) rfl ?_
  refine vv_iload_n 14 dX8_takenBy_13 rfl rfl ?_
  refine vv_if_eq 22 17 dX8_takenBy_14 rfl (by decide) (fun c5 => ?_) (fun c5 => ?_)
  · rw [if_pos c5] at hf
    refine vv_aload_n 23 dX8_takenBy_22 rfl rfl ?_
    obtain ⟨b6, g_b6, hf⟩ := bind_s hf
    have t_b6 := (ldO_spec g_b6).2
    refine gf_RX8_67 26 dX8_takenBy_23 rfl t_a0 (ldO_spec g_b6).1 ?_
    refine gf_RX8_121 29 dX8_takenBy_26 rfl t_b6 ?_
    refine vv_aload_n 30 dX8_takenBy_29 rfl rfl ?_
    refine gf_RX8_145 33 dX8_takenBy_30 rfl t_a1 ?_
    refine vv_icmp_le 39 36 dX8_takenBy_33 rfl (by decide) (fun c7 => ?_) (fun c7 => ?_)
    · rw [if_pos c7] at hf
      refine vv_aload_n 40 dX8_takenBy_39 rfl rfl ?_
      obtain ⟨b8, g_b8, hf⟩ := bind_s hf
      have t_b8 := (ldO_spec g_b8).2
      refine gf_RX8_44 43 dX8_takenBy_40 rfl t_a0 (ldO_spec g_b8).1 ?_
      refine gf_RX8_148 46 dX8_takenBy_43 rfl t_b8 ?_
      refine vv_aload_n 47 dX8_takenBy_46 rfl rfl ?_
      refine gf_RX8_87 50 dX8_takenBy_47 rfl t_a1 ?_
      refine vv_icmp_gt 56 53 dX8_takenBy_50 rfl (by decide) (fun c9 => ?_) (fun c9 => ?_)
      · rw [if_pos c9] at hf
        refine vv_aload_n 57 dX8_takenBy_56 rfl rfl ?_
        obtain ⟨b10, g_b10, hf⟩ := bind_s hf
        have t_b10 := (ldO_spec g_b10).2
        refine gf_RX8_67 60 dX8_takenBy_57 rfl t_a0 (ldO_spec g_b10).1 ?_
        refine vv_aload_n 61 dX8_takenBy_60 rfl rfl ?_
        obtain ⟨b11, g_b11, hf⟩ := bind_s hf
        have t_b11 := (ldO_spec g_b11).2
        refine gf_RX8_44 64 dX8_takenBy_61 rfl t_a0 (ldO_spec g_b11).1 ?_
        refine gf_RX8_148 67 dX8_takenBy_64 rfl t_b11 ?_
        obtain ⟨m12, e_m12, hf⟩ := bd_s hf
        refine pf_RX8_151 70 dX8_takenBy_67 rfl t_b10 e_m12 ?_
        refine vv_aload_n 71 dX8_takenBy_70 rfl rfl ?_
        obtain ⟨b13, g_b13, hf⟩ := bind_s hf
        have t_b13 := (ldO_spec g_b13).2
        refine gf_RX8_67 74 dX8_takenBy_71 rfl t_a0 (ldO_spec g_b13).1 ?_
        refine vv_aload_n 75 dX8_takenBy_74 rfl rfl ?_
        obtain ⟨b14, g_b14, hf⟩ := bind_s hf
        have t_b14 := (ldO_spec g_b14).2
        refine gf_RX8_44 78 dX8_takenBy_75 rfl t_a0 (ldO_spec g_b14).1 ?_
        obtain ⟨b15, g_b15, hf⟩ := bind_s hf
        have t_b15 := (ldO_spec g_b15).2
        refine gf_RX8_152 81 dX8_takenBy_78 rfl t_b14 (ldO_spec g_b15).1 ?_
        refine gf_RX8_153 84 dX8_takenBy_81 rfl t_b15 ?_
        obtain ⟨m16, e_m16, hf⟩ := bd_s hf
        refine pf_RX8_156 87 dX8_takenBy_84 rfl t_b13 e_m16 ?_
        refine vv_aload_n 88 dX8_takenBy_87 rfl rfl ?_
        obtain ⟨b17, g_b17, hf⟩ := bind_s hf
        have t_b17 := (ldO_spec g_b17).2
        refine gf_RX8_67 91 dX8_takenBy_88 rfl t_a0 (ldO_spec g_b17).1 ?_
        refine vv_iconst 92 (v := 0) dX8_takenBy_91 rfl (by decide) ?_
        refine vv_aload_n 93 dX8_takenBy_92 rfl rfl ?_
        obtain ⟨b18, g_b18, hf⟩ := bind_s hf
        have t_b18 := (ldO_spec g_b18).2
        refine gf_RX8_44 96 dX8_takenBy_93 rfl t_a0 (ldO_spec g_b18).1 ?_
        obtain ⟨q19, g_q19, hf⟩ := bind_s hf
        refine vv_callV 99 (st := []) (As := [.int (0 : Int32), .ref b18]) (stk2 := []) (cl2 := 0) (sl2 := 0) dX8_takenBy_96 rfl lk_RX8_157 w_662 w_663 rfl t_b17 ⟨(Nat.le_of_ble_eq_true rfl), (Nat.le_of_ble_eq_true rfl)⟩ rfl rfl ⟨(Nat.le_of_ble_eq_true rfl), (Nat.le_of_ble_eq_true rfl)⟩ rfl (Nat.le_of_ble_eq_true rfl) rfl rfl rfl rfl (c_X0_settle t_b17 t_b18 g_q19) ?_
        refine vv_aload_n 100 dX8_takenBy_99 rfl rfl ?_
        refine vv_aload_n 101 dX8_takenBy_100 rfl rfl ?_
        obtain ⟨b20, g_b20, hf⟩ := bind_s hf
        have t_b20 := (ldO_spec g_b20).2
        refine gf_RX8_67 104 dX8_takenBy_101 rfl t_a0 (ldO_spec g_b20).1 ?_
        obtain ⟨q21, g_q21, hf⟩ := bind_s hf
        refine vv_callV 107 (st := []) (As := [.ref b20]) (stk2 := [.int q21.1]) (cl2 := 0) (sl2 := 0) dX8_takenBy_104 rfl lk_RX8_161 w_666 w_667 rfl t_a1 ⟨(Nat.le_of_ble_eq_true rfl), (Nat.le_of_ble_eq_true rfl)⟩ rfl rfl ⟨(Nat.le_of_ble_eq_true rfl), (Nat.le_of_ble_eq_true rfl)⟩ rfl (Nat.le_of_ble_eq_true rfl) rfl rfl rfl rfl (c_X7_take t_a1 t_b20 g_q21) ?_
        obtain rfl := Option.some.inj hf
        exact vv_iret dX8_takenBy_107 rfl
      · rw [if_neg c9] at hf
        refine vv_bipush 55 (v := (-5)) dX8_takenBy_53 rfl (by decide) ?_
        obtain rfl := Option.some.inj hf
        exact vv_iret dX8_takenBy_55 rfl
    · rw [if_neg c7] at hf
      refine vv_bipush 38 (v := (-3)) dX8_takenBy_36 rfl (by decide) ?_
      obtain rfl := Option.some.inj hf
      exact vv_iret dX8_takenBy_38 rfl
  · rw [if_neg c5] at hf
    refine vv_bipush 19 (v := (-10)) dX8_takenBy_17 rfl (by decide) ?_
    refine vv_iload_n 20 dX8_takenBy_19 rfl rfl ?_
    refine vv_isub 21 dX8_takenBy_20 rfl ?_
    obtain rfl := Option.some.inj hf
    exact vv_iret dX8_takenBy_21 rfl

theorem c_X8_takenBy {w : Wo} {K : Kn} {a0 : Nat} {a1 : Nat} {q : (Int32 × Mem)} {m : Mem} (t_a0 : K a0 = some (.inl 7)) (t_a1 : K a1 = some (.inl 6)) (hf : F_X8_takenBy K m a0 a1 = some q) : MM w K K yX8_takenBy cX8_takenBy 3 (some .int) rm_X8_takenBy [.ref a0, .ref a1] m (some (.int q.1)) q.2 0 0 :=
  mm_of (ini := false) (n := 1) (plainFor_of_name (by decide)) rfl (fun h => by first | rfl | cases h) (Nat.le_of_ble_eq_true rfl) rfl (v_X8_takenBy_0 t_a0 t_a1 hf)

set_option maxHeartbeats 4000000 in
theorem v_X8_takes_0 {w : Wo} {K : Kn} {a0 : Nat} {x1 : Int32} {q : (Int32 × Mem)} (t_a0 : K a0 = some (.inl 7)) {m : Mem} (hf : f_X8_takes K a0 x1 m = some q) : VV w RX8 cX8_takes 3 (some .int) rm_X8_takes false (QM w K (some (.int q.1)) q.2 0 0) K 0 [some (.ref a0), some (.int x1), none] [] 0 0 m := by
  unfold f_X8_takes at hf
  refine vv_aload_n 1 dX8_takes_0 rfl rfl ?_
  refine vv_iload_n 2 dX8_takes_1 rfl rfl ?_
  obtain ⟨q1, g_q1, hf⟩ := bind_s hf
  refine vv_callV 5 (st := []) (As := [.int x1]) (stk2 := [.int q1]) (cl2 := 0) (sl2 := 0) dX8_takes_2 rfl lk_RX8_81 w_469 w_0 rfl t_a0 ⟨(Nat.le_of_ble_eq_true rfl), (Nat.le_of_ble_eq_true rfl)⟩ rfl rfl ⟨(Nat.le_of_ble_eq_true rfl), (Nat.le_of_ble_eq_true rfl)⟩ rfl (Nat.le_of_ble_eq_true rfl) rfl rfl rfl rfl (c_X8_isNone t_a0 g_q1) ?_
  refine vv_if_eq 11 8 dX8_takes_5 rfl (by decide) (fun c2 => ?_) (fun c2 => ?_)
  · rw [if_pos c2] at hf
    refine vv_aload_n 12 dX8_takes_11 rfl rfl ?_
    obtain ⟨b3, g_b3, hf⟩ := bind_s hf
    have t_b3 := (ldO_spec g_b3).2
    refine gf_RX8_67 15 dX8_takes_12 rfl t_a0 (ldO_spec g_b3).1 ?_
    refine vv_iconst 16 (v := 1) dX8_takes_15 rfl (by decide) ?_
    obtain ⟨m4, e_m4, hf⟩ := bd_s hf
    refine pf_RX8_133 19 dX8_takes_16 rfl t_b3 (by decide) e_m4 ?_
    refine vv_aload_n 20 dX8_takes_19 rfl rfl ?_
    refine vv_aload_n 21 dX8_takes_20 rfl rfl ?_
    obtain ⟨b5, g_b5, hf⟩ := bind_s hf
    have t_b5 := (ldA_spec g_b5).2
    refine gf_RX8_11 24 dX8_takes_21 rfl t_a0 (ldA_spec g_b5).1 ?_
    refine vv_iload_n 25 dX8_takes_24 rfl rfl ?_
    obtain ⟨b6, g_b6, hf⟩ := bind_s hf
    have t_b6 := (alO_spec g_b6).2
    refine vv_aald3 26 dX8_takes_25 rfl t_b5 g_b6 ?_
    obtain ⟨q7, g_q7, hf⟩ := bind_s hf
    refine vv_callV 29 (st := []) (As := [.ref b6]) (stk2 := [.int q7.1]) (cl2 := 0) (sl2 := 0) dX8_takes_26 rfl lk_RX8_137 w_620 w_5 rfl t_a0 ⟨(Nat.le_of_ble_eq_true rfl), (Nat.le_of_ble_eq_true rfl)⟩ rfl rfl ⟨(Nat.le_of_ble_eq_true rfl), (Nat.le_of_ble_eq_true rfl)⟩ rfl (Nat.le_of_ble_eq_true rfl) rfl rfl rfl rfl (c_X8_takenBy t_a0 t_b6 g_q7) ?_
    obtain ⟨z8, e_z8, hf⟩ := bd_s hf
    refine vv_istore_nE (q := 30) (v := z8) (L' := [some (.ref a0), some (.int x1), some (.int z8)]) e_z8 dX8_takes_29 rfl (Nat.le_of_ble_eq_true rfl) rfl ?_
    refine vv_aload_n 31 dX8_takes_30 rfl rfl ?_
    obtain ⟨b9, g_b9, hf⟩ := bind_s hf
    have t_b9 := (ldO_spec g_b9).2
    refine gf_RX8_67 34 dX8_takes_31 rfl t_a0 (ldO_spec g_b9).1 ?_
    refine vv_iconst 35 (v := 0) dX8_takes_34 rfl (by decide) ?_
    obtain ⟨m10, e_m10, hf⟩ := bd_s hf
    refine pf_RX8_121 38 dX8_takes_35 rfl t_b9 e_m10 ?_
    refine vv_iload_n 39 dX8_takes_38 rfl rfl ?_
    obtain rfl := Option.some.inj hf
    exact vv_iret dX8_takes_39 rfl
  · rw [if_neg c2] at hf
    refine vv_bipush 10 (v := (-2)) dX8_takes_8 rfl (by decide) ?_
    obtain rfl := Option.some.inj hf
    exact vv_iret dX8_takes_10 rfl

theorem c_X8_takes {w : Wo} {K : Kn} {a0 : Nat} {x1 : Int32} {q : (Int32 × Mem)} {m : Mem} (t_a0 : K a0 = some (.inl 7)) (hf : F_X8_takes K m a0 x1 = some q) : MM w K K yX8_takes cX8_takes 3 (some .int) rm_X8_takes [.ref a0, .int x1] m (some (.int q.1)) q.2 0 0 :=
  mm_of (ini := false) (n := 1) (plainFor_of_name (by decide)) rfl (fun h => by first | rfl | cases h) (Nat.le_of_ble_eq_true rfl) rfl (v_X8_takes_0 t_a0 hf)

set_option maxHeartbeats 4000000 in
theorem v_X8_taped_0 {w : Wo} {K : Kn} {a0 : Nat} {q : Int32} {m : Mem} (t_a0 : K a0 = some (.inl 7)) (hf : f_X8_taped K m a0 = some q) : VV w RX8 cX8_taped 1 (some .int) rm_X8_taped false (QM w K (some (.int q)) m 0 0) K 0 [some (.ref a0)] [] 0 0 m := by
  unfold f_X8_taped at hf
  refine vv_aload_n 1 dX8_taped_0 rfl rfl ?_
  obtain ⟨b1, g_b1, hf⟩ := bind_s hf
  have t_b1 := (ldO_spec g_b1).2
  refine gf_RX8_67 4 dX8_taped_1 rfl t_a0 (ldO_spec g_b1).1 ?_
  refine gf_RX8_121 7 dX8_taped_4 rfl t_b1 ?_
  obtain rfl := Option.some.inj hf
  exact vv_iret dX8_taped_7 rfl

theorem c_X8_taped {w : Wo} {K : Kn} {a0 : Nat} {q : Int32} {m : Mem} (t_a0 : K a0 = some (.inl 7)) (hf : F_X8_taped K m a0 = some q) : MM w K K yX8_taped cX8_taped 1 (some .int) rm_X8_taped [.ref a0] m (some (.int q)) m 0 0 :=
  mm_of (ini := false) (n := 0) (plainFor_of_name (by decide)) rfl (fun h => by first | rfl | cases h) (Nat.le_of_ble_eq_true rfl) rfl (v_X8_taped_0 t_a0 hf)
