/-! ===== the walks ===== -/
abbrev rm_X8_packMine : Room := { frames := 5, cells := 0, slots := 0, locals := 115 }
abbrev rm_X8_merge : Room := { frames := 7, cells := 0, slots := 0, locals := 170 }
abbrev rm_X7_soundPoints : Room := { frames := 0, cells := 0, slots := 0, locals := 0 }
abbrev rm_X7_bytes : Room := { frames := 0, cells := 0, slots := 0, locals := 0 }
abbrev rm_X8_count : Room := { frames := 7, cells := 0, slots := 0, locals := 170 }
abbrev rm_X8_blockOf : Room := { frames := 2, cells := 0, slots := 0, locals := 41 }
abbrev rm_X8_block : Room := { frames := 3, cells := 0, slots := 0, locals := 63 }
abbrev rm_X8_octet : Room := { frames := 3, cells := 0, slots := 0, locals := 63 }
abbrev rm_X8_fault : Room := { frames := 3, cells := 0, slots := 0, locals := 63 }
abbrev rm_X6_examine : Room := { frames := 4, cells := 0, slots := 0, locals := 94 }
abbrev rm_X0_settle : Room := { frames := 0, cells := 0, slots := 0, locals := 0 }
abbrev rm_X8_damage : Room := { frames := 5, cells := 0, slots := 0, locals := 118 }
abbrev rm_X8_has : Room := { frames := 6, cells := 0, slots := 0, locals := 149 }
abbrev rm_X8_at : Room := { frames := 6, cells := 0, slots := 0, locals := 149 }
abbrev rm_X5_closest : Room := { frames := 1, cells := 0, slots := 0, locals := 22 }
abbrev rm_X8_nearest : Room := { frames := 7, cells := 0, slots := 0, locals := 170 }
abbrev rm_J9_abs_067f4 : Room := { frames := 0, cells := 0, slots := 0, locals := 0 }
abbrev rm_X8_point : Room := { frames := 7, cells := 0, slots := 0, locals := 170 }
abbrev rm_X7_opened : Room := { frames := 1, cells := 0, slots := 0, locals := 22 }
abbrev rm_X5_lastStamp : Room := { frames := 0, cells := 0, slots := 0, locals := 0 }
abbrev rm_X3_isNumber : Room := { frames := 0, cells := 0, slots := 0, locals := 0 }
abbrev rm_X3_isInfinite : Room := { frames := 0, cells := 0, slots := 0, locals := 0 }
abbrev rm_X5_countKind : Room := { frames := 1, cells := 0, slots := 0, locals := 21 }
abbrev rm_X8_span : Room := { frames := 6, cells := 0, slots := 0, locals := 149 }
abbrev rm_X5_keep : Room := { frames := 0, cells := 0, slots := 0, locals := 0 }
abbrev rm_X5_keepNumbers : Room := { frames := 1, cells := 0, slots := 0, locals := 22 }
abbrev rm_X3_order : Room := { frames := 0, cells := 0, slots := 0, locals := 0 }
abbrev rm_X5_leastOf : Room := { frames := 1, cells := 0, slots := 0, locals := 21 }
abbrev rm_X5_greatestOf : Room := { frames := 1, cells := 0, slots := 0, locals := 21 }
abbrev rm_X3_exponent : Room := { frames := 1, cells := 0, slots := 0, locals := 21 }
abbrev rm_X3_fraction : Room := { frames := 0, cells := 0, slots := 0, locals := 0 }
set_option maxHeartbeats 4000000 in
theorem v_X8_packMine_10B {w : Wo} {K : Kn} {a0 : Nat} {x1 : Int32} {x2 : Int32} {q : (Int32 × Mem)} (t_a0 : K a0 = some (.inl 7)) (k10 : Mem → Int32 → Option (Int32 × Mem)) (hk10 : ∀ (m : Mem) (x3 : Int32), k10 m x3 = some q → VV w RX8 cX8_packMine 4 (some .int) rm_X8_packMine false (QM w K (some (.int q.1)) q.2 0 0) K 10 [some (.ref a0), some (.int x1), none, some (.int x3)] [] 0 0 m) {m : Mem} {x3 : Int32} (hf : f_X8_packMine_10B K a0 x1 x2 k10 m x3 = some q) : VV w RX8 cX8_packMine 4 (some .int) rm_X8_packMine false (QM w K (some (.int q.1)) q.2 0 0) K 10 [some (.ref a0), some (.int x1), none, some (.int x3)] [] 0 0 m := by
  unfold f_X8_packMine_10B at hf
  refine vv_iload_n 11 dX8_packMine_10 rfl rfl ?_
  refine vv_aload_n 12 dX8_packMine_11 rfl rfl ?_
  obtain ⟨b1, g_b1, hf⟩ := bind_s hf
  have t_b1 := (ldO_spec g_b1).2
  refine gf_RX8_25 15 dX8_packMine_12 rfl t_a0 (ldO_spec g_b1).1 ?_
  refine gf_RX8_102 18 dX8_packMine_15 rfl t_b1 ?_
  refine vv_icmp_ge 58 21 dX8_packMine_18 rfl (by decide) (fun c2 => ?_) (fun c2 => ?_)
  · rw [if_pos c2] at hf
    refine vv_aload_n 59 dX8_packMine_58 rfl rfl ?_
    refine vv_iload_n 60 dX8_packMine_59 rfl rfl ?_
    obtain ⟨q3, g_q3, hf⟩ := bind_s hf
    refine vv_callV 63 (st := []) (As := [.int x1]) (stk2 := [.int q3.1]) (cl2 := 0) (sl2 := 0) dX8_packMine_60 rfl lk_RX8_326 w_988 w_17 rfl t_a0 ⟨(Nat.le_of_ble_eq_true rfl), (Nat.le_of_ble_eq_true rfl)⟩ rfl rfl ⟨(Nat.le_of_ble_eq_true rfl), (Nat.le_of_ble_eq_true rfl)⟩ rfl (Nat.le_of_ble_eq_true rfl) rfl rfl rfl rfl (c_X8_useSpare t_a0 g_q3) ?_
    obtain rfl := Option.some.inj hf
    exact vv_iret dX8_packMine_63 rfl
  · rw [if_neg c2] at hf
    refine vv_aload_n 22 dX8_packMine_21 rfl rfl ?_
    obtain ⟨b4, g_b4, hf⟩ := bind_s hf
    have t_b4 := (ldO_spec g_b4).2
    refine gf_RX8_16 25 dX8_packMine_22 rfl t_a0 (ldO_spec g_b4).1 ?_
    refine vv_aload_n 26 dX8_packMine_25 rfl rfl ?_
    obtain ⟨b5, g_b5, hf⟩ := bind_s hf
    have t_b5 := (ldO_spec g_b5).2
    refine gf_RX8_25 29 dX8_packMine_26 rfl t_a0 (ldO_spec g_b5).1 ?_
    obtain ⟨b6, g_b6, hf⟩ := bind_s hf
    have t_b6 := (ldA_spec g_b6).2
    refine gf_RX8_240 32 dX8_packMine_29 rfl t_b5 (ldA_spec g_b6).1 ?_
    refine vv_iload_n 33 dX8_packMine_32 rfl rfl ?_
    obtain ⟨r7, g_r7, hf⟩ := bind_s hf
    refine vv_iald 34 dX8_packMine_33 rfl t_b6 g_r7 ?_
    refine vv_aload_n 35 dX8_packMine_34 rfl rfl ?_
    obtain ⟨b8, g_b8, hf⟩ := bind_s hf
    have t_b8 := (ldO_spec g_b8).2
    refine gf_RX8_25 38 dX8_packMine_35 rfl t_a0 (ldO_spec g_b8).1 ?_
    obtain ⟨b9, g_b9, hf⟩ := bind_s hf
    have t_b9 := (ldA_spec g_b9).2
    refine gf_RX8_232 41 dX8_packMine_38 rfl t_b8 (ldA_spec g_b9).1 ?_
    refine vv_iload_n 42 dX8_packMine_41 rfl rfl ?_
    obtain ⟨r10, g_r10, hf⟩ := bind_s hf
    refine vv_lald 43 dX8_packMine_42 rfl t_b9 g_r10 ?_
    obtain ⟨q11, g_q11, hf⟩ := bind_s hf
    refine vv_callV 46 (st := []) (As := [.int r7, .long r10]) (stk2 := [.int q11.1]) (cl2 := 0) (sl2 := 0) dX8_packMine_43 rfl lk_RX8_91 w_476 w_477 rfl t_b4 ⟨(Nat.le_of_ble_eq_true rfl), (Nat.le_of_ble_eq_true rfl)⟩ rfl rfl ⟨(Nat.le_of_ble_eq_true rfl), (Nat.le_of_ble_eq_true rfl)⟩ rfl (Nat.le_of_ble_eq_true rfl) rfl rfl rfl rfl (c_X7_put t_b4 g_q11) ?_
    refine vv_if_ge 52 49 dX8_packMine_46 rfl (by decide) (fun c12 => ?_) (fun c12 => ?_)
    · rw [if_pos c12] at hf
      obtain ⟨z13, e_z13, hf⟩ := bd_s hf
      refine vv_iincE (q := 55) (v := z13) (c := 1) (L' := [some (.ref a0), some (.int x1), none, some (.int z13)]) e_z13 dX8_packMine_52 rfl rfl (by decide) (Nat.le_of_ble_eq_true rfl) rfl ?_
      refine vv_goto 10 dX8_packMine_55 (by decide) ?_
      exact hk10 _ _ hf
    · rw [if_neg c12] at hf
      refine vv_bipush 51 (v := (-4)) dX8_packMine_49 rfl (by decide) ?_
      obtain rfl := Option.some.inj hf
      exact vv_iret dX8_packMine_51 rfl

theorem v_X8_packMine_10 {w : Wo} {K : Kn} {a0 : Nat} {x1 : Int32} {x2 : Int32} {q : (Int32 × Mem)} (t_a0 : K a0 = some (.inl 7)) : ∀ (n : Nat) (m : Mem) (x3 : Int32), f_X8_packMine_10 K a0 x1 x2 n m x3 = some q → VV w RX8 cX8_packMine 4 (some .int) rm_X8_packMine false (QM w K (some (.int q.1)) q.2 0 0) K 10 [some (.ref a0), some (.int x1), none, some (.int x3)] [] 0 0 m := by
  intro n
  induction n with
  | zero => intro m x3 hf; cases hf
  | succ n ih => intro m x3 hf; exact v_X8_packMine_10B (a0 := a0) (x1 := x1) (x2 := x2) t_a0 (f_X8_packMine_10 K a0 x1 x2 n) ih hf

set_option maxHeartbeats 4000000 in
theorem v_X8_packMine_0 {w : Wo} {K : Kn} {a0 : Nat} {x1 : Int32} {x2 : Int32} {q : (Int32 × Mem)} (t_a0 : K a0 = some (.inl 7)) {m : Mem} (hf : f_X8_packMine K a0 x1 x2 m = some q) : VV w RX8 cX8_packMine 4 (some .int) rm_X8_packMine false (QM w K (some (.int q.1)) q.2 0 0) K 0 [some (.ref a0), some (.int x1), some (.int x2), none] [] 0 0 m := by
  unfold f_X8_packMine at hf
  refine vv_aload_n 1 dX8_packMine_0 rfl rfl ?_
  obtain ⟨b1, g_b1, hf⟩ := bind_s hf
  have t_b1 := (ldO_spec g_b1).2
  refine gf_RX8_16 4 dX8_packMine_1 rfl t_a0 (ldO_spec g_b1).1 ?_
  refine vv_iload_n 5 dX8_packMine_4 rfl rfl ?_
  obtain ⟨q2, g_q2, hf⟩ := bind_s hf
  refine vv_callV 8 (st := []) (As := [.int x2]) (stk2 := []) (cl2 := 0) (sl2 := 0) dX8_packMine_5 rfl lk_RX8_78 w_460 w_461 rfl t_b1 ⟨(Nat.le_of_ble_eq_true rfl), (Nat.le_of_ble_eq_true rfl)⟩ rfl rfl ⟨(Nat.le_of_ble_eq_true rfl), (Nat.le_of_ble_eq_true rfl)⟩ rfl (Nat.le_of_ble_eq_true rfl) rfl rfl rfl rfl (c_X7_start t_b1 g_q2) ?_
  refine vv_iconst 9 (v := 0) dX8_packMine_8 rfl (by decide) ?_
  refine vv_istore_n 10 (L' := [some (.ref a0), some (.int x1), some (.int x2), some (.int (0 : Int32))]) dX8_packMine_9 rfl (Nat.le_of_ble_eq_true rfl) rfl ?_
  exact VV.lle (v_X8_packMine_10 t_a0 FU _ _ hf) (lle_s (lle_s (lle_n (lle_s lle_nil))))

theorem c_X8_packMine {w : Wo} {K : Kn} {a0 : Nat} {x1 : Int32} {x2 : Int32} {q : (Int32 × Mem)} {m : Mem} (t_a0 : K a0 = some (.inl 7)) (hf : F_X8_packMine K m a0 x1 x2 = some q) : MM w K K yX8_packMine cX8_packMine 4 (some .int) rm_X8_packMine [.ref a0, .int x1, .int x2] m (some (.int q.1)) q.2 0 0 :=
  mm_of (ini := false) (n := 1) (plainFor_of_name (by decide)) rfl (fun h => by first | rfl | cases h) (Nat.le_of_ble_eq_true rfl) rfl (v_X8_packMine_0 t_a0 hf)

set_option maxHeartbeats 4000000 in
theorem v_X8_merge_0 {w : Wo} {K : Kn} {a0 : Nat} {x1 : Int32} {q : (Int32 × Mem)} (t_a0 : K a0 = some (.inl 7)) {m : Mem} (hf : f_X8_merge K a0 x1 m = some q) : VV w RX8 cX8_merge 2 (some .int) rm_X8_merge false (QM w K (some (.int q.1)) q.2 0 0) K 0 [some (.ref a0), some (.int x1)] [] 0 0 m := by
  unfold f_X8_merge at hf
  refine vv_aload_n 1 dX8_merge_0 rfl rfl ?_
  refine vv_iload_n 2 dX8_merge_1 rfl rfl ?_
  obtain ⟨q1, g_q1, hf⟩ := bind_s hf
  refine vv_callV 5 (st := []) (As := [.int x1]) (stk2 := [.int q1]) (cl2 := 0) (sl2 := 0) dX8_merge_2 rfl lk_RX8_81 w_469 w_0 rfl t_a0 ⟨(Nat.le_of_ble_eq_true rfl), (Nat.le_of_ble_eq_true rfl)⟩ rfl rfl ⟨(Nat.le_of_ble_eq_true rfl), (Nat.le_of_ble_eq_true rfl)⟩ rfl (Nat.le_of_ble_eq_true rfl) rfl rfl rfl rfl (c_X8_isNone t_a0 g_q1) ?_
  refine vv_if_eq 11 8 dX8_merge_5 rfl (by decide) (fun c2 => ?_) (fun c2 => ?_)
  · rw [if_pos c2] at hf
    refine vv_aload_n 12 dX8_merge_11 rfl rfl ?_
    obtain ⟨b3, g_b3, hf⟩ := bind_s hf
    have t_b3 := (ldA_spec g_b3).2
    refine gf_RX8_11 15 dX8_merge_12 rfl t_a0 (ldA_spec g_b3).1 ?_
    refine vv_iload_n 16 dX8_merge_15 rfl rfl ?_
    obtain ⟨b4, g_b4, hf⟩ := bind_s hf
    have t_b4 := (alO_spec g_b4).2
    refine vv_aald3 17 dX8_merge_16 rfl t_b3 g_b4 ?_
    obtain ⟨q5, g_q5, hf⟩ := bind_s hf
    refine vv_callV 20 (st := []) (As := []) (stk2 := [.int q5]) (cl2 := 0) (sl2 := 0) dX8_merge_17 rfl lk_RX8_173 w_689 w_690 rfl t_b4 ⟨(Nat.le_of_ble_eq_true rfl), (Nat.le_of_ble_eq_true rfl)⟩ rfl rfl ⟨(Nat.le_of_ble_eq_true rfl), (Nat.le_of_ble_eq_true rfl)⟩ rfl (Nat.le_of_ble_eq_true rfl) rfl rfl rfl rfl (c_X7_broken t_b4 g_q5) ?_
    refine vv_if_eq 26 23 dX8_merge_20 rfl (by decide) (fun c6 => ?_) (fun c6 => ?_)
    · rw [if_pos c6] at hf
      refine vv_aload_n 27 dX8_merge_26 rfl rfl ?_
      refine vv_iload_n 28 dX8_merge_27 rfl rfl ?_
      obtain ⟨q7, g_q7, hf⟩ := bind_s hf
      refine vv_callV 31 (st := []) (As := [.int x1]) (stk2 := [.ref q7.1]) (cl2 := 0) (sl2 := 0) dX8_merge_28 rfl lk_RX8_176 w_694 w_11 rfl t_a0 ⟨(Nat.le_of_ble_eq_true rfl), (Nat.le_of_ble_eq_true rfl)⟩ rfl rfl ⟨(Nat.le_of_ble_eq_true rfl), (Nat.le_of_ble_eq_true rfl)⟩ rfl (Nat.le_of_ble_eq_true rfl) rfl rfl rfl rfl (c_X8_gathered t_a0 g_q7) ?_
      obtain ⟨t_8, hf⟩ := gd_s hf
      refine vv_pop 32 dX8_merge_31 rfl rfl ?_
      refine vv_aload_n 33 dX8_merge_32 rfl rfl ?_
      refine vv_iload_n 34 dX8_merge_33 rfl rfl ?_
      refine vv_aload_n 35 dX8_merge_34 rfl rfl ?_
      obtain ⟨b9, g_b9, hf⟩ := bind_s hf
      have t_b9 := (ldA_spec g_b9).2
      refine gf_RX8_11 38 dX8_merge_35 rfl t_a0 (ldA_spec g_b9).1 ?_
      refine vv_iload_n 39 dX8_merge_38 rfl rfl ?_
      obtain ⟨b10, g_b10, hf⟩ := bind_s hf
      have t_b10 := (alO_spec g_b10).2
      refine vv_aald3 40 dX8_merge_39 rfl t_b9 g_b10 ?_
      refine gf_RX8_145 43 dX8_merge_40 rfl t_b10 ?_
      obtain ⟨q11, g_q11, hf⟩ := bind_s hf
      refine vv_callV 46 (st := []) (As := [.int x1, .int (gI q7.2 b10 4)]) (stk2 := [.int q11.1]) (cl2 := 0) (sl2 := 0) dX8_merge_43 rfl lk_RX8_333 w_1013 w_18 rfl t_a0 ⟨(Nat.le_of_ble_eq_true rfl), (Nat.le_of_ble_eq_true rfl)⟩ rfl rfl ⟨(Nat.le_of_ble_eq_true rfl), (Nat.le_of_ble_eq_true rfl)⟩ rfl (Nat.le_of_ble_eq_true rfl) rfl rfl rfl rfl (c_X8_packMine t_a0 g_q11) ?_
      obtain rfl := Option.some.inj hf
      exact vv_iret dX8_merge_46 rfl
    · rw [if_neg c6] at hf
      refine vv_bipush 25 (v := (-6)) dX8_merge_23 rfl (by decide) ?_
      obtain rfl := Option.some.inj hf
      exact vv_iret dX8_merge_25 rfl
  · rw [if_neg c2] at hf
    refine vv_bipush 10 (v := (-2)) dX8_merge_8 rfl (by decide) ?_
    obtain rfl := Option.some.inj hf
    exact vv_iret dX8_merge_10 rfl

theorem c_X8_merge {w : Wo} {K : Kn} {a0 : Nat} {x1 : Int32} {q : (Int32 × Mem)} {m : Mem} (t_a0 : K a0 = some (.inl 7)) (hf : F_X8_merge K m a0 x1 = some q) : MM w K K yX8_merge cX8_merge 2 (some .int) rm_X8_merge [.ref a0, .int x1] m (some (.int q.1)) q.2 0 0 :=
  mm_of (ini := false) (n := 0) (plainFor_of_name (by decide)) rfl (fun h => by first | rfl | cases h) (Nat.le_of_ble_eq_true rfl) rfl (v_X8_merge_0 t_a0 hf)

set_option maxHeartbeats 4000000 in
theorem v_X7_soundPoints_36 {w : Wo} {K : Kn} {a0 : Nat} {q : Int32} {m : Mem} (t_a0 : K a0 = some (.inl 6)) (k4 : Int32 → Int32 → Option Int32) (hk4 : ∀ (x1 : Int32) (x2 : Int32), k4 x1 x2 = some q → VV w RX7 cX7_soundPoints 3 (some .int) rm_X7_soundPoints false (QM w K (some (.int q)) m 0 0) K 4 [some (.ref a0), some (.int x1), some (.int x2)] [] 0 0 m) {x1 : Int32} {x2 : Int32} (hf : f_X7_soundPoints_36 K m a0 k4 x1 x2 = some q) : VV w RX7 cX7_soundPoints 3 (some .int) rm_X7_soundPoints false (QM w K (some (.int q)) m 0 0) K 36 [some (.ref a0), some (.int x1), some (.int x2)] [] 0 0 m := by
  unfold f_X7_soundPoints_36 at hf
  obtain ⟨z1, e_z1, hf⟩ := bd_s hf
  refine vv_iincE (q := 39) (v := z1) (c := 1) (L' := [some (.ref a0), some (.int x1), some (.int z1)]) e_z1 dX7_soundPoints_36 rfl rfl (by decide) (Nat.le_of_ble_eq_true rfl) rfl ?_
  refine vv_goto 4 dX7_soundPoints_39 (by decide) ?_
  exact hk4 _ _ hf

set_option maxHeartbeats 4000000 in
theorem v_X7_soundPoints_4B {w : Wo} {K : Kn} {a0 : Nat} {q : Int32} {m : Mem} (t_a0 : K a0 = some (.inl 6)) (k4 : Int32 → Int32 → Option Int32) (hk4 : ∀ (x1 : Int32) (x2 : Int32), k4 x1 x2 = some q → VV w RX7 cX7_soundPoints 3 (some .int) rm_X7_soundPoints false (QM w K (some (.int q)) m 0 0) K 4 [some (.ref a0), some (.int x1), some (.int x2)] [] 0 0 m) {x1 : Int32} {x2 : Int32} (hf : f_X7_soundPoints_4B K m a0 k4 x1 x2 = some q) : VV w RX7 cX7_soundPoints 3 (some .int) rm_X7_soundPoints false (QM w K (some (.int q)) m 0 0) K 4 [some (.ref a0), some (.int x1), some (.int x2)] [] 0 0 m := by
  unfold f_X7_soundPoints_4B at hf
  refine vv_iload_n 5 dX7_soundPoints_4 rfl rfl ?_
  refine vv_aload_n 6 dX7_soundPoints_5 rfl rfl ?_
  refine gf_RX7_45 9 dX7_soundPoints_6 rfl t_a0 ?_
  refine vv_icmp_ge 42 12 dX7_soundPoints_9 rfl (by decide) (fun c1 => ?_) (fun c1 => ?_)
  · rw [if_pos c1] at hf
    refine vv_iload_n 43 dX7_soundPoints_42 rfl rfl ?_
    obtain rfl := Option.some.inj hf
    exact vv_iret dX7_soundPoints_43 rfl
  · rw [if_neg c1] at hf
    refine vv_aload_n 13 dX7_soundPoints_12 rfl rfl ?_
    obtain ⟨b2, g_b2, hf⟩ := bind_s hf
    have t_b2 := (ldA_spec g_b2).2
    refine gf_RX7_11 16 dX7_soundPoints_13 rfl t_a0 (ldA_spec g_b2).1 ?_
    refine vv_iload_n 17 dX7_soundPoints_16 rfl rfl ?_
    obtain ⟨b3, g_b3, hf⟩ := bind_s hf
    have t_b3 := (alO_spec g_b3).2
    refine vv_aald4 18 dX7_soundPoints_17 rfl t_b2 g_b3 ?_
    refine gf_RX7_101 21 dX7_soundPoints_18 rfl t_b3 ?_
    refine vv_if_ne 36 24 dX7_soundPoints_21 rfl (by decide) (fun c4 => ?_) (fun c4 => ?_)
    · rw [if_pos c4] at hf
      refine vv_iload_n 25 dX7_soundPoints_24 rfl rfl ?_
      refine vv_aload_n 26 dX7_soundPoints_25 rfl rfl ?_
      obtain ⟨b5, g_b5, hf⟩ := bind_s hf
      have t_b5 := (ldA_spec g_b5).2
      refine gf_RX7_11 29 dX7_soundPoints_26 rfl t_a0 (ldA_spec g_b5).1 ?_
      refine vv_iload_n 30 dX7_soundPoints_29 rfl rfl ?_
      obtain ⟨b6, g_b6, hf⟩ := bind_s hf
      have t_b6 := (alO_spec g_b6).2
      refine vv_aald4 31 dX7_soundPoints_30 rfl t_b5 g_b6 ?_
      refine gf_RX7_104 34 dX7_soundPoints_31 rfl t_b6 ?_
      refine vv_iadd 35 dX7_soundPoints_34 rfl ?_
      obtain ⟨z7, e_z7, hf⟩ := bd_s hf
      refine vv_istore_nE (q := 36) (v := z7) (L' := [some (.ref a0), some (.int z7), some (.int x2)]) e_z7 dX7_soundPoints_35 rfl (Nat.le_of_ble_eq_true rfl) rfl ?_
      exact v_X7_soundPoints_36 t_a0 k4 hk4 hf
    · rw [if_neg c4] at hf
      exact v_X7_soundPoints_36 t_a0 k4 hk4 hf

theorem v_X7_soundPoints_4 {w : Wo} {K : Kn} {a0 : Nat} {q : Int32} {m : Mem} (t_a0 : K a0 = some (.inl 6)) : ∀ (n : Nat) (x1 : Int32) (x2 : Int32), f_X7_soundPoints_4 K m a0 n x1 x2 = some q → VV w RX7 cX7_soundPoints 3 (some .int) rm_X7_soundPoints false (QM w K (some (.int q)) m 0 0) K 4 [some (.ref a0), some (.int x1), some (.int x2)] [] 0 0 m := by
  intro n
  induction n with
  | zero => intro x1 x2 hf; cases hf
  | succ n ih => intro x1 x2 hf; exact v_X7_soundPoints_4B (a0 := a0) t_a0 (f_X7_soundPoints_4 K m a0 n) ih hf

set_option maxHeartbeats 4000000 in
theorem v_X7_soundPoints_0 {w : Wo} {K : Kn} {a0 : Nat} {q : Int32} {m : Mem} (t_a0 : K a0 = some (.inl 6)) (hf : f_X7_soundPoints K m a0 = some q) : VV w RX7 cX7_soundPoints 3 (some .int) rm_X7_soundPoints false (QM w K (some (.int q)) m 0 0) K 0 [some (.ref a0), none, none] [] 0 0 m := by
  unfold f_X7_soundPoints at hf
  refine vv_iconst 1 (v := 0) dX7_soundPoints_0 rfl (by decide) ?_
  refine vv_istore_n 2 (L' := [some (.ref a0), some (.int (0 : Int32)), none]) dX7_soundPoints_1 rfl (Nat.le_of_ble_eq_true rfl) rfl ?_
  refine vv_iconst 3 (v := 0) dX7_soundPoints_2 rfl (by decide) ?_
  refine vv_istore_n 4 (L' := [some (.ref a0), some (.int (0 : Int32)), some (.int (0 : Int32))]) dX7_soundPoints_3 rfl (Nat.le_of_ble_eq_true rfl) rfl ?_
  exact v_X7_soundPoints_4 t_a0 FU _ _ hf

theorem c_X7_soundPoints {w : Wo} {K : Kn} {a0 : Nat} {q : Int32} {m : Mem} (t_a0 : K a0 = some (.inl 6)) (hf : F_X7_soundPoints K m a0 = some q) : MM w K K yX7_soundPoints cX7_soundPoints 3 (some .int) rm_X7_soundPoints [.ref a0] m (some (.int q)) m 0 0 :=
  mm_of (ini := false) (n := 2) (plainFor_of_name (by decide)) rfl (fun h => by first | rfl | cases h) (Nat.le_of_ble_eq_true rfl) rfl (v_X7_soundPoints_0 t_a0 hf)

set_option maxHeartbeats 4000000 in
theorem v_X7_bytes_4B {w : Wo} {K : Kn} {a0 : Nat} {q : Int32} {m : Mem} (t_a0 : K a0 = some (.inl 6)) (k4 : Int32 → Int32 → Option Int32) (hk4 : ∀ (x1 : Int32) (x2 : Int32), k4 x1 x2 = some q → VV w RX7 cX7_bytes 3 (some .int) rm_X7_bytes false (QM w K (some (.int q)) m 0 0) K 4 [some (.ref a0), some (.int x1), some (.int x2)] [] 0 0 m) {x1 : Int32} {x2 : Int32} (hf : f_X7_bytes_4B K m a0 k4 x1 x2 = some q) : VV w RX7 cX7_bytes 3 (some .int) rm_X7_bytes false (QM w K (some (.int q)) m 0 0) K 4 [some (.ref a0), some (.int x1), some (.int x2)] [] 0 0 m := by
  unfold f_X7_bytes_4B at hf
  refine vv_iload_n 5 dX7_bytes_4 rfl rfl ?_
  refine vv_aload_n 6 dX7_bytes_5 rfl rfl ?_
  refine gf_RX7_45 9 dX7_bytes_6 rfl t_a0 ?_
  refine vv_icmp_ge 30 12 dX7_bytes_9 rfl (by decide) (fun c1 => ?_) (fun c1 => ?_)
  · rw [if_pos c1] at hf
    refine vv_iload_n 31 dX7_bytes_30 rfl rfl ?_
    obtain rfl := Option.some.inj hf
    exact vv_iret dX7_bytes_31 rfl
  · rw [if_neg c1] at hf
    refine vv_iload_n 13 dX7_bytes_12 rfl rfl ?_
    refine vv_aload_n 14 dX7_bytes_13 rfl rfl ?_
    obtain ⟨b2, g_b2, hf⟩ := bind_s hf
    have t_b2 := (ldA_spec g_b2).2
    refine gf_RX7_11 17 dX7_bytes_14 rfl t_a0 (ldA_spec g_b2).1 ?_
    refine vv_iload_n 18 dX7_bytes_17 rfl rfl ?_
    obtain ⟨b3, g_b3, hf⟩ := bind_s hf
    have t_b3 := (alO_spec g_b3).2
    refine vv_aald4 19 dX7_bytes_18 rfl t_b2 g_b3 ?_
    refine gf_RX7_107 22 dX7_bytes_19 rfl t_b3 ?_
    refine vv_iadd 23 dX7_bytes_22 rfl ?_
    obtain ⟨z4, e_z4, hf⟩ := bd_s hf
    refine vv_istore_nE (q := 24) (v := z4) (L' := [some (.ref a0), some (.int z4), some (.int x2)]) e_z4 dX7_bytes_23 rfl (Nat.le_of_ble_eq_true rfl) rfl ?_
    obtain ⟨z5, e_z5, hf⟩ := bd_s hf
    refine vv_iincE (q := 27) (v := z5) (c := 1) (L' := [some (.ref a0), some (.int z4), some (.int z5)]) e_z5 dX7_bytes_24 rfl rfl (by decide) (Nat.le_of_ble_eq_true rfl) rfl ?_
    refine vv_goto 4 dX7_bytes_27 (by decide) ?_
    exact hk4 _ _ hf

theorem v_X7_bytes_4 {w : Wo} {K : Kn} {a0 : Nat} {q : Int32} {m : Mem} (t_a0 : K a0 = some (.inl 6)) : ∀ (n : Nat) (x1 : Int32) (x2 : Int32), f_X7_bytes_4 K m a0 n x1 x2 = some q → VV w RX7 cX7_bytes 3 (some .int) rm_X7_bytes false (QM w K (some (.int q)) m 0 0) K 4 [some (.ref a0), some (.int x1), some (.int x2)] [] 0 0 m := by
  intro n
  induction n with
  | zero => intro x1 x2 hf; cases hf
  | succ n ih => intro x1 x2 hf; exact v_X7_bytes_4B (a0 := a0) t_a0 (f_X7_bytes_4 K m a0 n) ih hf

set_option maxHeartbeats 4000000 in
theorem v_X7_bytes_0 {w : Wo} {K : Kn} {a0 : Nat} {q : Int32} {m : Mem} (t_a0 : K a0 = some (.inl 6)) (hf : f_X7_bytes K m a0 = some q) : VV w RX7 cX7_bytes 3 (some .int) rm_X7_bytes false (QM w K (some (.int q)) m 0 0) K 0 [some (.ref a0), none, none] [] 0 0 m := by
  unfold f_X7_bytes at hf
  refine vv_iconst 1 (v := 0) dX7_bytes_0 rfl (by decide) ?_
  refine vv_istore_n 2 (L' := [some (.ref a0), some (.int (0 : Int32)), none]) dX7_bytes_1 rfl (Nat.le_of_ble_eq_true rfl) rfl ?_
  refine vv_iconst 3 (v := 0) dX7_bytes_2 rfl (by decide) ?_
  refine vv_istore_n 4 (L' := [some (.ref a0), some (.int (0 : Int32)), some (.int (0 : Int32))]) dX7_bytes_3 rfl (Nat.le_of_ble_eq_true rfl) rfl ?_
  exact v_X7_bytes_4 t_a0 FU _ _ hf

theorem c_X7_bytes {w : Wo} {K : Kn} {a0 : Nat} {q : Int32} {m : Mem} (t_a0 : K a0 = some (.inl 6)) (hf : F_X7_bytes K m a0 = some q) : MM w K K yX7_bytes cX7_bytes 3 (some .int) rm_X7_bytes [.ref a0] m (some (.int q)) m 0 0 :=
  mm_of (ini := false) (n := 2) (plainFor_of_name (by decide)) rfl (fun h => by first | rfl | cases h) (Nat.le_of_ble_eq_true rfl) rfl (v_X7_bytes_0 t_a0 hf)

set_option maxHeartbeats 4000000 in
theorem v_X8_count_114 {w : Wo} {K : Kn} {a0 : Nat} {x1 : Int32} {x2 : Int32} {q : (Int32 × Mem)} (t_a0 : K a0 = some (.inl 7)) {m : Mem} {a3 : Nat} (t_a3 : K a3 = some (.inl 6)) (hf : f_X8_count_114 K a0 x1 x2 m a3 = some q) : VV w RX8 cX8_count 4 (some .int) rm_X8_count false (QM w K (some (.int q.1)) q.2 0 0) K 114 [none, none, none, some (.ref a3)] [] 0 0 m := by
  unfold f_X8_count_114 at hf
  refine vv_aload_n 115 dX8_count_114 rfl rfl ?_
  refine gf_RX8_87 118 dX8_count_115 rfl t_a3 ?_
  obtain rfl := Option.some.inj hf
  exact vv_iret dX8_count_118 rfl

set_option maxHeartbeats 4000000 in
theorem v_X8_count_72 {w : Wo} {K : Kn} {a0 : Nat} {x1 : Int32} {x2 : Int32} {q : (Int32 × Mem)} (t_a0 : K a0 = some (.inl 7)) {m : Mem} {a3 : Nat} (t_a3 : K a3 = some (.inl 6)) (hf : f_X8_count_72 K a0 x1 x2 m a3 = some q) : VV w RX8 cX8_count 4 (some .int) rm_X8_count false (QM w K (some (.int q.1)) q.2 0 0) K 72 [none, none, none, some (.ref a3)] [] 0 0 m := by
  unfold f_X8_count_72 at hf
  refine vv_aload_n 73 dX8_count_72 rfl rfl ?_
  refine gf_RX8_145 76 dX8_count_73 rfl t_a3 ?_
  obtain rfl := Option.some.inj hf
  exact vv_iret dX8_count_76 rfl

set_option maxHeartbeats 4000000 in
theorem v_X8_count_77 {w : Wo} {K : Kn} {a0 : Nat} {x1 : Int32} {x2 : Int32} {q : (Int32 × Mem)} (t_a0 : K a0 = some (.inl 7)) {m : Mem} {a3 : Nat} (t_a3 : K a3 = some (.inl 6)) (hf : f_X8_count_77 K a0 x1 x2 m a3 = some q) : VV w RX8 cX8_count 4 (some .int) rm_X8_count false (QM w K (some (.int q.1)) q.2 0 0) K 77 [none, none, none, some (.ref a3)] [] 0 0 m := by
  unfold f_X8_count_77 at hf
  refine vv_aload_n 78 dX8_count_77 rfl rfl ?_
  obtain ⟨q1, g_q1, hf⟩ := bind_s hf
  refine vv_callV 81 (st := []) (As := []) (stk2 := [.int q1]) (cl2 := 0) (sl2 := 0) dX8_count_78 rfl lk_RX8_165 w_681 w_682 rfl t_a3 ⟨(Nat.le_of_ble_eq_true rfl), (Nat.le_of_ble_eq_true rfl)⟩ rfl rfl ⟨(Nat.le_of_ble_eq_true rfl), (Nat.le_of_ble_eq_true rfl)⟩ rfl (Nat.le_of_ble_eq_true rfl) rfl rfl rfl rfl (c_X7_soundPoints t_a3 g_q1) ?_
  obtain rfl := Option.some.inj hf
  exact vv_iret dX8_count_81 rfl

set_option maxHeartbeats 4000000 in
theorem v_X8_count_82 {w : Wo} {K : Kn} {a0 : Nat} {x1 : Int32} {x2 : Int32} {q : (Int32 × Mem)} (t_a0 : K a0 = some (.inl 7)) {m : Mem} {a3 : Nat} (t_a3 : K a3 = some (.inl 6)) (hf : f_X8_count_82 K a0 x1 x2 m a3 = some q) : VV w RX8 cX8_count 4 (some .int) rm_X8_count false (QM w K (some (.int q.1)) q.2 0 0) K 82 [none, none, none, some (.ref a3)] [] 0 0 m := by
  unfold f_X8_count_82 at hf
  refine vv_aload_n 83 dX8_count_82 rfl rfl ?_
  refine gf_RX8_169 86 dX8_count_83 rfl t_a3 ?_
  obtain rfl := Option.some.inj hf
  exact vv_iret dX8_count_86 rfl

set_option maxHeartbeats 4000000 in
theorem v_X8_count_87 {w : Wo} {K : Kn} {a0 : Nat} {x1 : Int32} {x2 : Int32} {q : (Int32 × Mem)} (t_a0 : K a0 = some (.inl 7)) {m : Mem} {a3 : Nat} (t_a3 : K a3 = some (.inl 6)) (hf : f_X8_count_87 K a0 x1 x2 m a3 = some q) : VV w RX8 cX8_count 4 (some .int) rm_X8_count false (QM w K (some (.int q.1)) q.2 0 0) K 87 [none, none, none, some (.ref a3)] [] 0 0 m := by
  unfold f_X8_count_87 at hf
  refine vv_aload_n 88 dX8_count_87 rfl rfl ?_
  obtain ⟨b1, g_b1, hf⟩ := bind_s hf
  have t_b1 := (ldO_spec g_b1).2
  refine gf_RX8_95 91 dX8_count_88 rfl t_a3 (ldO_spec g_b1).1 ?_
  refine gf_RX8_102 94 dX8_count_91 rfl t_b1 ?_
  obtain rfl := Option.some.inj hf
  exact vv_iret dX8_count_94 rfl

set_option maxHeartbeats 4000000 in
theorem v_X8_count_95 {w : Wo} {K : Kn} {a0 : Nat} {x1 : Int32} {x2 : Int32} {q : (Int32 × Mem)} (t_a0 : K a0 = some (.inl 7)) {m : Mem} {a3 : Nat} (t_a3 : K a3 = some (.inl 6)) (hf : f_X8_count_95 K a0 x1 x2 m a3 = some q) : VV w RX8 cX8_count 4 (some .int) rm_X8_count false (QM w K (some (.int q.1)) q.2 0 0) K 95 [none, none, none, some (.ref a3)] [] 0 0 m := by
  unfold f_X8_count_95 at hf
  refine vv_aload_n 96 dX8_count_95 rfl rfl ?_
  obtain ⟨q1, g_q1, hf⟩ := bind_s hf
  refine vv_callV 99 (st := []) (As := []) (stk2 := [.int q1]) (cl2 := 0) (sl2 := 0) dX8_count_96 rfl lk_RX8_170 w_685 w_686 rfl t_a3 ⟨(Nat.le_of_ble_eq_true rfl), (Nat.le_of_ble_eq_true rfl)⟩ rfl rfl ⟨(Nat.le_of_ble_eq_true rfl), (Nat.le_of_ble_eq_true rfl)⟩ rfl (Nat.le_of_ble_eq_true rfl) rfl rfl rfl rfl (c_X7_bytes t_a3 g_q1) ?_
  obtain rfl := Option.some.inj hf
  exact vv_iret dX8_count_99 rfl

set_option maxHeartbeats 4000000 in
theorem v_X8_count_100 {w : Wo} {K : Kn} {a0 : Nat} {x1 : Int32} {x2 : Int32} {q : (Int32 × Mem)} (t_a0 : K a0 = some (.inl 7)) {m : Mem} {a3 : Nat} (t_a3 : K a3 = some (.inl 6)) (hf : f_X8_count_100 K a0 x1 x2 m a3 = some q) : VV w RX8 cX8_count 4 (some .int) rm_X8_count false (QM w K (some (.int q.1)) q.2 0 0) K 100 [none, none, none, some (.ref a3)] [] 0 0 m := by
  unfold f_X8_count_100 at hf
  refine vv_aload_n 101 dX8_count_100 rfl rfl ?_
  obtain ⟨q1, g_q1, hf⟩ := bind_s hf
  refine vv_callV 104 (st := []) (As := []) (stk2 := [.int q1]) (cl2 := 0) (sl2 := 0) dX8_count_101 rfl lk_RX8_173 w_689 w_690 rfl t_a3 ⟨(Nat.le_of_ble_eq_true rfl), (Nat.le_of_ble_eq_true rfl)⟩ rfl rfl ⟨(Nat.le_of_ble_eq_true rfl), (Nat.le_of_ble_eq_true rfl)⟩ rfl (Nat.le_of_ble_eq_true rfl) rfl rfl rfl rfl (c_X7_broken t_a3 g_q1) ?_
  obtain rfl := Option.some.inj hf
  exact vv_iret dX8_count_104 rfl

set_option maxHeartbeats 4000000 in
theorem v_X8_count_105 {w : Wo} {K : Kn} {a0 : Nat} {x1 : Int32} {x2 : Int32} {q : (Int32 × Mem)} (t_a0 : K a0 = some (.inl 7)) {m : Mem} (hf : f_X8_count_105 K a0 x1 x2 m = some q) : VV w RX8 cX8_count 4 (some .int) rm_X8_count false (QM w K (some (.int q.1)) q.2 0 0) K 105 [some (.ref a0), some (.int x1), none, none] [] 0 0 m := by
  unfold f_X8_count_105 at hf
  refine vv_aload_n 106 dX8_count_105 rfl rfl ?_
  refine vv_iload_n 107 dX8_count_106 rfl rfl ?_
  obtain ⟨q1, g_q1, hf⟩ := bind_s hf
  refine vv_callV 110 (st := []) (As := [.int x1]) (stk2 := [.ref q1.1]) (cl2 := 0) (sl2 := 0) dX8_count_107 rfl lk_RX8_176 w_694 w_11 rfl t_a0 ⟨(Nat.le_of_ble_eq_true rfl), (Nat.le_of_ble_eq_true rfl)⟩ rfl rfl ⟨(Nat.le_of_ble_eq_true rfl), (Nat.le_of_ble_eq_true rfl)⟩ rfl (Nat.le_of_ble_eq_true rfl) rfl rfl rfl rfl (c_X8_gathered t_a0 g_q1) ?_
  obtain ⟨t_2, hf⟩ := gd_s hf
  refine gf_RX8_102 113 dX8_count_110 rfl t_2 ?_
  obtain rfl := Option.some.inj hf
  exact vv_iret dX8_count_113 rfl

set_option maxHeartbeats 4000000 in
theorem v_X8_count_0 {w : Wo} {K : Kn} {a0 : Nat} {x1 : Int32} {x2 : Int32} {q : (Int32 × Mem)} (t_a0 : K a0 = some (.inl 7)) {m : Mem} (hf : f_X8_count K a0 x1 x2 m = some q) : VV w RX8 cX8_count 4 (some .int) rm_X8_count false (QM w K (some (.int q.1)) q.2 0 0) K 0 [some (.ref a0), some (.int x1), some (.int x2), none] [] 0 0 m := by
  unfold f_X8_count at hf
  refine vv_aload_n 1 dX8_count_0 rfl rfl ?_
  refine vv_iload_n 2 dX8_count_1 rfl rfl ?_
  obtain ⟨q1, g_q1, hf⟩ := bind_s hf
  refine vv_callV 5 (st := []) (As := [.int x1]) (stk2 := [.int q1]) (cl2 := 0) (sl2 := 0) dX8_count_2 rfl lk_RX8_81 w_469 w_0 rfl t_a0 ⟨(Nat.le_of_ble_eq_true rfl), (Nat.le_of_ble_eq_true rfl)⟩ rfl rfl ⟨(Nat.le_of_ble_eq_true rfl), (Nat.le_of_ble_eq_true rfl)⟩ rfl (Nat.le_of_ble_eq_true rfl) rfl rfl rfl rfl (c_X8_isNone t_a0 g_q1) ?_
  refine vv_if_ne 18 8 dX8_count_5 rfl (by decide) (fun c2 => ?_) (fun c2 => ?_)
  · rw [if_pos c2] at hf
    refine vv_iload_n 9 dX8_count_8 rfl rfl ?_
    refine vv_if_lt 18 12 dX8_count_9 rfl (by decide) (fun c3 => ?_) (fun c3 => ?_)
    · rw [if_pos c3] at hf
      refine vv_bipush 20 (v := (-2)) dX8_count_18 rfl (by decide) ?_
      obtain rfl := Option.some.inj hf
      exact vv_iret dX8_count_20 rfl
    · rw [if_neg c3] at hf
      refine vv_iload_n 13 dX8_count_12 rfl rfl ?_
      refine vv_bipush 15 (v := 7) dX8_count_13 rfl (by decide) ?_
      refine vv_icmp_le 21 18 dX8_count_15 rfl (by decide) (fun c4 => ?_) (fun c4 => ?_)
      · rw [if_pos c4] at hf
        refine vv_aload_n 22 dX8_count_21 rfl rfl ?_
        obtain ⟨b5, g_b5, hf⟩ := bind_s hf
        have t_b5 := (ldA_spec g_b5).2
        refine gf_RX8_11 25 dX8_count_22 rfl t_a0 (ldA_spec g_b5).1 ?_
        refine vv_iload_n 26 dX8_count_25 rfl rfl ?_
        obtain ⟨b6, g_b6, hf⟩ := bind_s hf
        have t_b6 := (alO_spec g_b6).2
        refine vv_aald3 27 dX8_count_26 rfl t_b5 g_b6 ?_
        refine vv_astore_n 28 (L' := [some (.ref a0), some (.int x1), some (.int x2), some (.ref b6)]) dX8_count_27 rfl (Nat.le_of_ble_eq_true rfl) rfl ?_
        refine vv_iload_n 29 dX8_count_28 rfl rfl ?_
        by_cases c7 : x2 = 0
        · rw [if_pos c7] at hf
          refine vv_tabK 72 (k := 0) c7 dX8_count_29 (by decide) (by decide) (off := 43) rfl (by decide) ?_
          exact VV.lle (v_X8_count_72 t_a0 t_b6 hf) (lle_n (lle_n (lle_n (lle_s lle_nil))))
        rw [if_neg c7] at hf
        by_cases c8 : x2 = 1
        · rw [if_pos c8] at hf
          refine vv_tabK 77 (k := 1) c8 dX8_count_29 (by decide) (by decide) (off := 48) rfl (by decide) ?_
          exact VV.lle (v_X8_count_77 t_a0 t_b6 hf) (lle_n (lle_n (lle_n (lle_s lle_nil))))
        rw [if_neg c8] at hf
        by_cases c9 : x2 = 2
        · rw [if_pos c9] at hf
          refine vv_tabK 82 (k := 2) c9 dX8_count_29 (by decide) (by decide) (off := 53) rfl (by decide) ?_
          exact VV.lle (v_X8_count_82 t_a0 t_b6 hf) (lle_n (lle_n (lle_n (lle_s lle_nil))))
        rw [if_neg c9] at hf
        by_cases c10 : x2 = 3
        · rw [if_pos c10] at hf
          refine vv_tabK 87 (k := 3) c10 dX8_count_29 (by decide) (by decide) (off := 58) rfl (by decide) ?_
          exact VV.lle (v_X8_count_87 t_a0 t_b6 hf) (lle_n (lle_n (lle_n (lle_s lle_nil))))
        rw [if_neg c10] at hf
        by_cases c11 : x2 = 4
        · rw [if_pos c11] at hf
          refine vv_tabK 95 (k := 4) c11 dX8_count_29 (by decide) (by decide) (off := 66) rfl (by decide) ?_
          exact VV.lle (v_X8_count_95 t_a0 t_b6 hf) (lle_n (lle_n (lle_n (lle_s lle_nil))))
        rw [if_neg c11] at hf
        by_cases c12 : x2 = 5
        · rw [if_pos c12] at hf
          refine vv_tabK 100 (k := 5) c12 dX8_count_29 (by decide) (by decide) (off := 71) rfl (by decide) ?_
          exact VV.lle (v_X8_count_100 t_a0 t_b6 hf) (lle_n (lle_n (lle_n (lle_s lle_nil))))
        rw [if_neg c12] at hf
        by_cases c13 : x2 = 6
        · rw [if_pos c13] at hf
          refine vv_tabK 105 (k := 6) c13 dX8_count_29 (by decide) (by decide) (off := 76) rfl (by decide) ?_
          exact VV.lle (v_X8_count_105 t_a0 hf) (lle_s (lle_s (lle_n (lle_n lle_nil))))
        rw [if_neg c13] at hf
        refine vv_tabOut 114 dX8_count_29 (tab_out (n := 6) (by decide) (fun k hk => ?_)) (by decide) ?_
        · match k, hk with
          | 0, _ => exact c7
          | 1, _ => exact c8
          | 2, _ => exact c9
          | 3, _ => exact c10
          | 4, _ => exact c11
          | 5, _ => exact c12
          | 6, _ => exact c13
          | k + 7, hk => exact absurd hk (by omega)
        exact VV.lle (v_X8_count_114 t_a0 t_b6 hf) (lle_n (lle_n (lle_n (lle_s lle_nil))))
      · rw [if_neg c4] at hf
        refine vv_bipush 20 (v := (-2)) dX8_count_18 rfl (by decide) ?_
        obtain rfl := Option.some.inj hf
        exact vv_iret dX8_count_20 rfl
  · rw [if_neg c2] at hf
    refine vv_bipush 20 (v := (-2)) dX8_count_18 rfl (by decide) ?_
    obtain rfl := Option.some.inj hf
    exact vv_iret dX8_count_20 rfl

theorem c_X8_count {w : Wo} {K : Kn} {a0 : Nat} {x1 : Int32} {x2 : Int32} {q : (Int32 × Mem)} {m : Mem} (t_a0 : K a0 = some (.inl 7)) (hf : F_X8_count K m a0 x1 x2 = some q) : MM w K K yX8_count cX8_count 4 (some .int) rm_X8_count [.ref a0, .int x1, .int x2] m (some (.int q.1)) q.2 0 0 :=
  mm_of (ini := false) (n := 1) (plainFor_of_name (by decide)) rfl (fun h => by first | rfl | cases h) (Nat.le_of_ble_eq_true rfl) rfl (v_X8_count_0 t_a0 hf)

set_option maxHeartbeats 4000000 in
theorem v_X8_blockOf_25 {w : Wo} {K : Kn} {a0 : Nat} {x1 : Int32} {x2 : Int32} {q : (Option Nat)} {m : Mem} (t_a0 : K a0 = some (.inl 7)) (hf : f_X8_blockOf_25 K m a0 x1 x2 = some q) : VV w RX8 cX8_blockOf 3 (some (.object "SeriesPress$Block")) rm_X8_blockOf false (QM w K (some (va_rf q)) m 0 0) K 25 [none, none, none] [] 0 0 m := by
  unfold f_X8_blockOf_25 at hf
  refine vv_null 26 dX8_blockOf_25 rfl ?_
  obtain rfl := Option.some.inj hf
  exact vv_aret dX8_blockOf_26 rfl (Or.inl ⟨_, rfl⟩) (Or.inl rfl)

set_option maxHeartbeats 4000000 in
theorem v_X8_blockOf_0 {w : Wo} {K : Kn} {a0 : Nat} {x1 : Int32} {x2 : Int32} {q : (Option Nat)} {m : Mem} (t_a0 : K a0 = some (.inl 7)) (hf : f_X8_blockOf K m a0 x1 x2 = some q) : VV w RX8 cX8_blockOf 3 (some (.object "SeriesPress$Block")) rm_X8_blockOf false (QM w K (some (va_rf q)) m 0 0) K 0 [some (.ref a0), some (.int x1), some (.int x2)] [] 0 0 m := by
  unfold f_X8_blockOf at hf
  refine vv_aload_n 1 dX8_blockOf_0 rfl rfl ?_
  refine vv_iload_n 2 dX8_blockOf_1 rfl rfl ?_
  obtain ⟨q1, g_q1, hf⟩ := bind_s hf
  refine vv_callV 5 (st := []) (As := [.int x1]) (stk2 := [.int q1]) (cl2 := 0) (sl2 := 0) dX8_blockOf_2 rfl lk_RX8_81 w_469 w_0 rfl t_a0 ⟨(Nat.le_of_ble_eq_true rfl), (Nat.le_of_ble_eq_true rfl)⟩ rfl rfl ⟨(Nat.le_of_ble_eq_true rfl), (Nat.le_of_ble_eq_true rfl)⟩ rfl (Nat.le_of_ble_eq_true rfl) rfl rfl rfl rfl (c_X8_isNone t_a0 g_q1) ?_
  refine vv_if_ne 25 8 dX8_blockOf_5 rfl (by decide) (fun c2 => ?_) (fun c2 => ?_)
  · rw [if_pos c2] at hf
    refine vv_iload_n 9 dX8_blockOf_8 rfl rfl ?_
    refine vv_if_lt 25 12 dX8_blockOf_9 rfl (by decide) (fun c3 => ?_) (fun c3 => ?_)
    · rw [if_pos c3] at hf
      exact VV.lle (v_X8_blockOf_25 t_a0 hf) (lle_n (lle_n (lle_n lle_nil)))
    · rw [if_neg c3] at hf
      refine vv_iload_n 13 dX8_blockOf_12 rfl rfl ?_
      refine vv_aload_n 14 dX8_blockOf_13 rfl rfl ?_
      obtain ⟨b4, g_b4, hf⟩ := bind_s hf
      have t_b4 := (ldA_spec g_b4).2
      refine gf_RX8_11 17 dX8_blockOf_14 rfl t_a0 (ldA_spec g_b4).1 ?_
      refine vv_iload_n 18 dX8_blockOf_17 rfl rfl ?_
      obtain ⟨b5, g_b5, hf⟩ := bind_s hf
      have t_b5 := (alO_spec g_b5).2
      refine vv_aald3 19 dX8_blockOf_18 rfl t_b4 g_b5 ?_
      refine gf_RX8_169 22 dX8_blockOf_19 rfl t_b5 ?_
      refine vv_icmp_lt 27 25 dX8_blockOf_22 rfl (by decide) (fun c6 => ?_) (fun c6 => ?_)
      · rw [if_pos c6] at hf
        refine vv_aload_n 28 dX8_blockOf_27 rfl rfl ?_
        obtain ⟨b7, g_b7, hf⟩ := bind_s hf
        have t_b7 := (ldA_spec g_b7).2
        refine gf_RX8_11 31 dX8_blockOf_28 rfl t_a0 (ldA_spec g_b7).1 ?_
        refine vv_iload_n 32 dX8_blockOf_31 rfl rfl ?_
        obtain ⟨b8, g_b8, hf⟩ := bind_s hf
        have t_b8 := (alO_spec g_b8).2
        refine vv_aald3 33 dX8_blockOf_32 rfl t_b7 g_b8 ?_
        obtain ⟨b9, g_b9, hf⟩ := bind_s hf
        have t_b9 := (ldA_spec g_b9).2
        refine gf_RX8_205 36 dX8_blockOf_33 rfl t_b8 (ldA_spec g_b9).1 ?_
        refine vv_iload_n 37 dX8_blockOf_36 rfl rfl ?_
        obtain ⟨b10, g_b10, hf⟩ := bind_s hf
        have t_b10 := (alO_spec g_b10).2
        refine vv_aald4 38 dX8_blockOf_37 rfl t_b9 g_b10 ?_
        obtain rfl := Option.some.inj hf
        exact vv_aret dX8_blockOf_38 rfl (Or.inl ⟨_, rfl⟩) (Or.inr ⟨_, rfl⟩)
      · rw [if_neg c6] at hf
        exact VV.lle (v_X8_blockOf_25 t_a0 hf) (lle_n (lle_n (lle_n lle_nil)))
  · rw [if_neg c2] at hf
    exact VV.lle (v_X8_blockOf_25 t_a0 hf) (lle_n (lle_n (lle_n lle_nil)))

theorem c_X8_blockOf {w : Wo} {K : Kn} {a0 : Nat} {x1 : Int32} {x2 : Int32} {q : (Option Nat)} {m : Mem} (t_a0 : K a0 = some (.inl 7)) (hf : F_X8_blockOf K m a0 x1 x2 = some q) : MM w K K yX8_blockOf cX8_blockOf 3 (some (.object "SeriesPress$Block")) rm_X8_blockOf [.ref a0, .int x1, .int x2] m (some (va_rf q)) m 0 0 :=
  mm_of (ini := false) (n := 0) (plainFor_of_name (by decide)) rfl (fun h => by first | rfl | cases h) (Nat.le_of_ble_eq_true rfl) rfl (v_X8_blockOf_0 t_a0 hf)

set_option maxHeartbeats 4000000 in
theorem v_X8_block_110 {w : Wo} {K : Kn} {a0 : Nat} {x1 : Int32} {x2 : Int32} {x3 : Int32} {q : Int32} {m : Mem} (t_a0 : K a0 = some (.inl 7)) {a4 : Nat} (t_a4 : K a4 = some (.inl 0)) (hf : f_X8_block_110 K m a0 x1 x2 x3 a4 = some q) : VV w RX8 cX8_block 5 (some .int) rm_X8_block false (QM w K (some (.int q)) m 0 0) K 110 [none, none, none, none, some (.ref a4)] [] 0 0 m := by
  unfold f_X8_block_110 at hf
  refine vv_aload 112 dX8_block_110 rfl rfl ?_
  refine gf_RX8_186 115 dX8_block_112 rfl t_a4 ?_
  obtain rfl := Option.some.inj hf
  exact vv_iret dX8_block_115 rfl

set_option maxHeartbeats 4000000 in
theorem v_X8_block_92 {w : Wo} {K : Kn} {a0 : Nat} {x1 : Int32} {x2 : Int32} {x3 : Int32} {q : Int32} {m : Mem} (t_a0 : K a0 = some (.inl 7)) {a4 : Nat} (t_a4 : K a4 = some (.inl 0)) (hf : f_X8_block_92 K m a0 x1 x2 x3 a4 = some q) : VV w RX8 cX8_block 5 (some .int) rm_X8_block false (QM w K (some (.int q)) m 0 0) K 92 [none, none, none, none, some (.ref a4)] [] 0 0 m := by
  unfold f_X8_block_92 at hf
  refine vv_aload 94 dX8_block_92 rfl rfl ?_
  refine gf_RX8_151 97 dX8_block_94 rfl t_a4 ?_
  obtain rfl := Option.some.inj hf
  exact vv_iret dX8_block_97 rfl

set_option maxHeartbeats 4000000 in
theorem v_X8_block_98 {w : Wo} {K : Kn} {a0 : Nat} {x1 : Int32} {x2 : Int32} {x3 : Int32} {q : Int32} {m : Mem} (t_a0 : K a0 = some (.inl 7)) {a4 : Nat} (t_a4 : K a4 = some (.inl 0)) (hf : f_X8_block_98 K m a0 x1 x2 x3 a4 = some q) : VV w RX8 cX8_block 5 (some .int) rm_X8_block false (QM w K (some (.int q)) m 0 0) K 98 [none, none, none, none, some (.ref a4)] [] 0 0 m := by
  unfold f_X8_block_98 at hf
  refine vv_aload 100 dX8_block_98 rfl rfl ?_
  refine gf_RX8_156 103 dX8_block_100 rfl t_a4 ?_
  obtain rfl := Option.some.inj hf
  exact vv_iret dX8_block_103 rfl

set_option maxHeartbeats 4000000 in
theorem v_X8_block_104 {w : Wo} {K : Kn} {a0 : Nat} {x1 : Int32} {x2 : Int32} {x3 : Int32} {q : Int32} {m : Mem} (t_a0 : K a0 = some (.inl 7)) {a4 : Nat} (t_a4 : K a4 = some (.inl 0)) (hf : f_X8_block_104 K m a0 x1 x2 x3 a4 = some q) : VV w RX8 cX8_block 5 (some .int) rm_X8_block false (QM w K (some (.int q)) m 0 0) K 104 [none, none, none, none, some (.ref a4)] [] 0 0 m := by
  unfold f_X8_block_104 at hf
  refine vv_aload 106 dX8_block_104 rfl rfl ?_
  refine gf_RX8_183 109 dX8_block_106 rfl t_a4 ?_
  obtain rfl := Option.some.inj hf
  exact vv_iret dX8_block_109 rfl

set_option maxHeartbeats 4000000 in
theorem v_X8_block_0 {w : Wo} {K : Kn} {a0 : Nat} {x1 : Int32} {x2 : Int32} {x3 : Int32} {q : Int32} {m : Mem} (t_a0 : K a0 = some (.inl 7)) (hf : f_X8_block K m a0 x1 x2 x3 = some q) : VV w RX8 cX8_block 5 (some .int) rm_X8_block false (QM w K (some (.int q)) m 0 0) K 0 [some (.ref a0), some (.int x1), some (.int x2), some (.int x3), none] [] 0 0 m := by
  unfold f_X8_block at hf
  refine vv_aload_n 1 dX8_block_0 rfl rfl ?_
  refine vv_iload_n 2 dX8_block_1 rfl rfl ?_
  refine vv_iload_n 3 dX8_block_2 rfl rfl ?_
  obtain ⟨q1, g_q1, hf⟩ := bind_s hf
  refine vv_callV 6 (st := []) (As := [.int x1, .int x2]) (stk2 := [va_rf q1]) (cl2 := 0) (sl2 := 0) dX8_block_3 rfl lk_RX8_122 w_595 w_4 rfl t_a0 ⟨(Nat.le_of_ble_eq_true rfl), (Nat.le_of_ble_eq_true rfl)⟩ rfl rfl ⟨(Nat.le_of_ble_eq_true rfl), (Nat.le_of_ble_eq_true rfl)⟩ rfl (Nat.le_of_ble_eq_true rfl) rfl rfl rfl rfl (c_X8_blockOf t_a0 g_q1) ?_
  rcases caseO_s hf with ⟨ho, hf⟩ | ⟨b2, ho, hf⟩
  · subst ho
    refine vv_astoreN 8 (L' := [some (.ref a0), some (.int x1), some (.int x2), some (.int x3), some (.null)]) dX8_block_6 rfl (Nat.le_of_ble_eq_true rfl) rfl ?_
    refine vv_aloadN 10 dX8_block_8 rfl rfl ?_
    refine vv_ifnullN 22 dX8_block_10 (by decide) ?_
    refine vv_bipush 24 (v := (-2)) dX8_block_22 rfl (by decide) ?_
    obtain rfl := Option.some.inj hf
    exact vv_iret dX8_block_24 rfl
  · subst ho
    obtain ⟨t_b2, hf⟩ := gd_s hf
    refine vv_astore 8 (L' := [some (.ref a0), some (.int x1), some (.int x2), some (.int x3), some (.ref b2)]) dX8_block_6 rfl (Nat.le_of_ble_eq_true rfl) rfl ?_
    refine vv_aload 10 dX8_block_8 rfl rfl ?_
    refine vv_ifnull 13 dX8_block_10 rfl ?_
    refine vv_iload_n 14 dX8_block_13 rfl rfl ?_
    refine vv_if_lt 22 17 dX8_block_14 rfl (by decide) (fun c3 => ?_) (fun c3 => ?_)
    · rw [if_pos c3] at hf
      refine vv_bipush 24 (v := (-2)) dX8_block_22 rfl (by decide) ?_
      obtain rfl := Option.some.inj hf
      exact vv_iret dX8_block_24 rfl
    · rw [if_neg c3] at hf
      refine vv_iload_n 18 dX8_block_17 rfl rfl ?_
      refine vv_iconst 19 (v := 5) dX8_block_18 rfl (by decide) ?_
      refine vv_icmp_le 25 22 dX8_block_19 rfl (by decide) (fun c4 => ?_) (fun c4 => ?_)
      · rw [if_pos c4] at hf
        refine vv_iload_n 26 dX8_block_25 rfl rfl ?_
        refine vv_iconst 27 (v := 3) dX8_block_26 rfl (by decide) ?_
        refine vv_icmp_ne 36 30 dX8_block_27 rfl (by decide) (fun c5 => ?_) (fun c5 => ?_)
        · rw [if_pos c5] at hf
          refine vv_aload 32 dX8_block_30 rfl rfl ?_
          refine gf_RX8_121 35 dX8_block_32 rfl t_b2 ?_
          obtain rfl := Option.some.inj hf
          exact vv_iret dX8_block_35 rfl
        · rw [if_neg c5] at hf
          refine vv_iload_n 37 dX8_block_36 rfl rfl ?_
          refine vv_iconst 38 (v := 5) dX8_block_37 rfl (by decide) ?_
          refine vv_icmp_ne 55 41 dX8_block_38 rfl (by decide) (fun c6 => ?_) (fun c6 => ?_)
          · rw [if_pos c6] at hf
            refine vv_aload 43 dX8_block_41 rfl rfl ?_
            refine gf_RX8_133 46 dX8_block_43 rfl t_b2 ?_
            refine vv_if_eq 53 49 dX8_block_46 rfl (by decide) (fun c7 => ?_) (fun c7 => ?_)
            · rw [if_pos c7] at hf
              refine vv_iconst 54 (v := 0) dX8_block_53 rfl (by decide) ?_
              obtain rfl := Option.some.inj hf
              exact vv_iret dX8_block_54 rfl
            · rw [if_neg c7] at hf
              refine vv_iconst 50 (v := 1) dX8_block_49 rfl (by decide) ?_
              refine vv_goto 54 dX8_block_50 (by decide) ?_
              obtain rfl := Option.some.inj hf
              exact vv_iret dX8_block_54 rfl
          · rw [if_neg c6] at hf
            refine vv_aload 57 dX8_block_55 rfl rfl ?_
            refine gf_RX8_180 60 dX8_block_57 rfl t_b2 ?_
            refine vv_if_eq 66 63 dX8_block_60 rfl (by decide) (fun c8 => ?_) (fun c8 => ?_)
            · rw [if_pos c8] at hf
              refine vv_iload_n 67 dX8_block_66 rfl rfl ?_
              by_cases c9 : x3 = 0
              · rw [if_pos c9] at hf
                refine vv_tabK 92 (k := 0) c9 dX8_block_67 (by decide) (by decide) (off := 25) rfl (by decide) ?_
                exact VV.lle (v_X8_block_92 t_a0 t_b2 hf) (lle_n (lle_n (lle_n (lle_n (lle_s lle_nil)))))
              rw [if_neg c9] at hf
              by_cases c10 : x3 = 1
              · rw [if_pos c10] at hf
                refine vv_tabK 98 (k := 1) c10 dX8_block_67 (by decide) (by decide) (off := 31) rfl (by decide) ?_
                exact VV.lle (v_X8_block_98 t_a0 t_b2 hf) (lle_n (lle_n (lle_n (lle_n (lle_s lle_nil)))))
              rw [if_neg c10] at hf
              by_cases c11 : x3 = 2
              · rw [if_pos c11] at hf
                refine vv_tabK 104 (k := 2) c11 dX8_block_67 (by decide) (by decide) (off := 37) rfl (by decide) ?_
                exact VV.lle (v_X8_block_104 t_a0 t_b2 hf) (lle_n (lle_n (lle_n (lle_n (lle_s lle_nil)))))
              rw [if_neg c11] at hf
              refine vv_tabOut 110 dX8_block_67 (tab_out (n := 2) (by decide) (fun k hk => ?_)) (by decide) ?_
              · match k, hk with
                | 0, _ => exact c9
                | 1, _ => exact c10
                | 2, _ => exact c11
                | k + 3, hk => exact absurd hk (by omega)
              exact VV.lle (v_X8_block_110 t_a0 t_b2 hf) (lle_n (lle_n (lle_n (lle_n (lle_s lle_nil)))))
            · rw [if_neg c8] at hf
              refine vv_bipush 65 (v := (-6)) dX8_block_63 rfl (by decide) ?_
              obtain rfl := Option.some.inj hf
              exact vv_iret dX8_block_65 rfl
      · rw [if_neg c4] at hf
        refine vv_bipush 24 (v := (-2)) dX8_block_22 rfl (by decide) ?_
        obtain rfl := Option.some.inj hf
        exact vv_iret dX8_block_24 rfl

theorem c_X8_block {w : Wo} {K : Kn} {a0 : Nat} {x1 : Int32} {x2 : Int32} {x3 : Int32} {q : Int32} {m : Mem} (t_a0 : K a0 = some (.inl 7)) (hf : F_X8_block K m a0 x1 x2 x3 = some q) : MM w K K yX8_block cX8_block 5 (some .int) rm_X8_block [.ref a0, .int x1, .int x2, .int x3] m (some (.int q)) m 0 0 :=
  mm_of (ini := false) (n := 1) (plainFor_of_name (by decide)) rfl (fun h => by first | rfl | cases h) (Nat.le_of_ble_eq_true rfl) rfl (v_X8_block_0 t_a0 hf)

set_option maxHeartbeats 4000000 in
theorem v_X8_octet_29 {w : Wo} {K : Kn} {a0 : Nat} {x1 : Int32} {x2 : Int32} {x3 : Int32} {q : Int32} {m : Mem} (t_a0 : K a0 = some (.inl 7)) (hf : f_X8_octet_29 K m a0 x1 x2 x3 = some q) : VV w RX8 cX8_octet 5 (some .int) rm_X8_octet false (QM w K (some (.int q)) m 0 0) K 29 [none, none, none, none, none] [] 0 0 m := by
  unfold f_X8_octet_29 at hf
  refine vv_iconst 30 (v := (-1)) dX8_octet_29 rfl (by decide) ?_
  refine vv_goto 40 dX8_octet_30 (by decide) ?_
  obtain rfl := Option.some.inj hf
  exact vv_iret dX8_octet_40 rfl

set_option maxHeartbeats 4000000 in
theorem v_X8_octet_0 {w : Wo} {K : Kn} {a0 : Nat} {x1 : Int32} {x2 : Int32} {x3 : Int32} {q : Int32} {m : Mem} (t_a0 : K a0 = some (.inl 7)) (hf : f_X8_octet K m a0 x1 x2 x3 = some q) : VV w RX8 cX8_octet 5 (some .int) rm_X8_octet false (QM w K (some (.int q)) m 0 0) K 0 [some (.ref a0), some (.int x1), some (.int x2), some (.int x3), none] [] 0 0 m := by
  unfold f_X8_octet at hf
  refine vv_aload_n 1 dX8_octet_0 rfl rfl ?_
  refine vv_iload_n 2 dX8_octet_1 rfl rfl ?_
  refine vv_iload_n 3 dX8_octet_2 rfl rfl ?_
  obtain ⟨q1, g_q1, hf⟩ := bind_s hf
  refine vv_callV 6 (st := []) (As := [.int x1, .int x2]) (stk2 := [va_rf q1]) (cl2 := 0) (sl2 := 0) dX8_octet_3 rfl lk_RX8_122 w_595 w_4 rfl t_a0 ⟨(Nat.le_of_ble_eq_true rfl), (Nat.le_of_ble_eq_true rfl)⟩ rfl rfl ⟨(Nat.le_of_ble_eq_true rfl), (Nat.le_of_ble_eq_true rfl)⟩ rfl (Nat.le_of_ble_eq_true rfl) rfl rfl rfl rfl (c_X8_blockOf t_a0 g_q1) ?_
  rcases caseO_s hf with ⟨ho, hf⟩ | ⟨b2, ho, hf⟩
  · subst ho
    refine vv_astoreN 8 (L' := [some (.ref a0), some (.int x1), some (.int x2), some (.int x3), some (.null)]) dX8_octet_6 rfl (Nat.le_of_ble_eq_true rfl) rfl ?_
    refine vv_aloadN 10 dX8_octet_8 rfl rfl ?_
    refine vv_ifnonnullN 13 dX8_octet_10 rfl ?_
    refine vv_bipush 15 (v := (-2)) dX8_octet_13 rfl (by decide) ?_
    obtain rfl := Option.some.inj hf
    exact vv_iret dX8_octet_15 rfl
  · subst ho
    obtain ⟨t_b2, hf⟩ := gd_s hf
    refine vv_astore 8 (L' := [some (.ref a0), some (.int x1), some (.int x2), some (.int x3), some (.ref b2)]) dX8_octet_6 rfl (Nat.le_of_ble_eq_true rfl) rfl ?_
    refine vv_aload 10 dX8_octet_8 rfl rfl ?_
    refine vv_ifnonnull 16 dX8_octet_10 (by decide) ?_
    refine vv_iload_n 17 dX8_octet_16 rfl rfl ?_
    refine vv_if_lt 29 20 dX8_octet_17 rfl (by decide) (fun c3 => ?_) (fun c3 => ?_)
    · rw [if_pos c3] at hf
      exact VV.lle (v_X8_octet_29 t_a0 hf) (lle_n (lle_n (lle_n (lle_n (lle_n lle_nil)))))
    · rw [if_neg c3] at hf
      refine vv_iload_n 21 dX8_octet_20 rfl rfl ?_
      refine vv_aload 23 dX8_octet_21 rfl rfl ?_
      refine gf_RX8_121 26 dX8_octet_23 rfl t_b2 ?_
      refine vv_icmp_lt 33 29 dX8_octet_26 rfl (by decide) (fun c4 => ?_) (fun c4 => ?_)
      · rw [if_pos c4] at hf
        refine vv_aload 35 dX8_octet_33 rfl rfl ?_
        obtain ⟨b5, g_b5, hf⟩ := bind_s hf
        have t_b5 := (ldA_spec g_b5).2
        refine gf_RX8_189 38 dX8_octet_35 rfl t_b2 (ldA_spec g_b5).1 ?_
        refine vv_iload_n 39 dX8_octet_38 rfl rfl ?_
        obtain ⟨r6, g_r6, hf⟩ := bind_s hf
        refine vv_iald 40 dX8_octet_39 rfl t_b5 g_r6 ?_
        obtain rfl := Option.some.inj hf
        exact vv_iret dX8_octet_40 rfl
      · rw [if_neg c4] at hf
        exact VV.lle (v_X8_octet_29 t_a0 hf) (lle_n (lle_n (lle_n (lle_n (lle_n lle_nil)))))

theorem c_X8_octet {w : Wo} {K : Kn} {a0 : Nat} {x1 : Int32} {x2 : Int32} {x3 : Int32} {q : Int32} {m : Mem} (t_a0 : K a0 = some (.inl 7)) (hf : F_X8_octet K m a0 x1 x2 x3 = some q) : MM w K K yX8_octet cX8_octet 5 (some .int) rm_X8_octet [.ref a0, .int x1, .int x2, .int x3] m (some (.int q)) m 0 0 :=
  mm_of (ini := false) (n := 1) (plainFor_of_name (by decide)) rfl (fun h => by first | rfl | cases h) (Nat.le_of_ble_eq_true rfl) rfl (v_X8_octet_0 t_a0 hf)

set_option maxHeartbeats 4000000 in
theorem v_X8_fault_0 {w : Wo} {K : Kn} {a0 : Nat} {x1 : Int32} {x2 : Int32} {x3 : Int32} {q : Int32} {m : Mem} (t_a0 : K a0 = some (.inl 7)) (hf : f_X8_fault K m a0 x1 x2 x3 = some q) : VV w RX8 cX8_fault 5 (some .int) rm_X8_fault false (QM w K (some (.int q)) m 0 0) K 0 [some (.ref a0), some (.int x1), some (.int x2), some (.int x3), none] [] 0 0 m := by
  unfold f_X8_fault at hf
  refine vv_aload_n 1 dX8_fault_0 rfl rfl ?_
  refine vv_iload_n 2 dX8_fault_1 rfl rfl ?_
  refine vv_iload_n 3 dX8_fault_2 rfl rfl ?_
  obtain ⟨q1, g_q1, hf⟩ := bind_s hf
  refine vv_callV 6 (st := []) (As := [.int x1, .int x2]) (stk2 := [va_rf q1]) (cl2 := 0) (sl2 := 0) dX8_fault_3 rfl lk_RX8_122 w_595 w_4 rfl t_a0 ⟨(Nat.le_of_ble_eq_true rfl), (Nat.le_of_ble_eq_true rfl)⟩ rfl rfl ⟨(Nat.le_of_ble_eq_true rfl), (Nat.le_of_ble_eq_true rfl)⟩ rfl (Nat.le_of_ble_eq_true rfl) rfl rfl rfl rfl (c_X8_blockOf t_a0 g_q1) ?_
  rcases caseO_s hf with ⟨ho, hf⟩ | ⟨b2, ho, hf⟩
  · subst ho
    refine vv_astoreN 8 (L' := [some (.ref a0), some (.int x1), some (.int x2), some (.int x3), some (.null)]) dX8_fault_6 rfl (Nat.le_of_ble_eq_true rfl) rfl ?_
    refine vv_aloadN 10 dX8_fault_8 rfl rfl ?_
    refine vv_ifnullN 22 dX8_fault_10 (by decide) ?_
    refine vv_bipush 24 (v := (-2)) dX8_fault_22 rfl (by decide) ?_
    obtain rfl := Option.some.inj hf
    exact vv_iret dX8_fault_24 rfl
  · subst ho
    obtain ⟨t_b2, hf⟩ := gd_s hf
    refine vv_astore 8 (L' := [some (.ref a0), some (.int x1), some (.int x2), some (.int x3), some (.ref b2)]) dX8_fault_6 rfl (Nat.le_of_ble_eq_true rfl) rfl ?_
    refine vv_aload 10 dX8_fault_8 rfl rfl ?_
    refine vv_ifnull 13 dX8_fault_10 rfl ?_
    refine vv_iload_n 14 dX8_fault_13 rfl rfl ?_
    refine vv_if_lt 22 17 dX8_fault_14 rfl (by decide) (fun c3 => ?_) (fun c3 => ?_)
    · rw [if_pos c3] at hf
      refine vv_bipush 24 (v := (-2)) dX8_fault_22 rfl (by decide) ?_
      obtain rfl := Option.some.inj hf
      exact vv_iret dX8_fault_24 rfl
    · rw [if_neg c3] at hf
      refine vv_iload_n 18 dX8_fault_17 rfl rfl ?_
      refine vv_iconst 19 (v := 1) dX8_fault_18 rfl (by decide) ?_
      refine vv_icmp_le 25 22 dX8_fault_19 rfl (by decide) (fun c4 => ?_) (fun c4 => ?_)
      · rw [if_pos c4] at hf
        refine vv_iload_n 26 dX8_fault_25 rfl rfl ?_
        refine vv_if_ne 37 29 dX8_fault_26 rfl (by decide) (fun c5 => ?_) (fun c5 => ?_)
        · rw [if_pos c5] at hf
          refine vv_aload 31 dX8_fault_29 rfl rfl ?_
          refine gf_RX8_180 34 dX8_fault_31 rfl t_b2 ?_
          refine vv_goto 42 dX8_fault_34 (by decide) ?_
          obtain rfl := Option.some.inj hf
          exact vv_iret dX8_fault_42 rfl
        · rw [if_neg c5] at hf
          refine vv_aload 39 dX8_fault_37 rfl rfl ?_
          refine gf_RX8_192 42 dX8_fault_39 rfl t_b2 ?_
          obtain rfl := Option.some.inj hf
          exact vv_iret dX8_fault_42 rfl
      · rw [if_neg c4] at hf
        refine vv_bipush 24 (v := (-2)) dX8_fault_22 rfl (by decide) ?_
        obtain rfl := Option.some.inj hf
        exact vv_iret dX8_fault_24 rfl

theorem c_X8_fault {w : Wo} {K : Kn} {a0 : Nat} {x1 : Int32} {x2 : Int32} {x3 : Int32} {q : Int32} {m : Mem} (t_a0 : K a0 = some (.inl 7)) (hf : F_X8_fault K m a0 x1 x2 x3 = some q) : MM w K K yX8_fault cX8_fault 5 (some .int) rm_X8_fault [.ref a0, .int x1, .int x2, .int x3] m (some (.int q)) m 0 0 :=
  mm_of (ini := false) (n := 1) (plainFor_of_name (by decide)) rfl (fun h => by first | rfl | cases h) (Nat.le_of_ble_eq_true rfl) rfl (v_X8_fault_0 t_a0 hf)

set_option maxHeartbeats 4000000 in
theorem v_X6_examine_189 {w : Wo} {K : Kn} {a0 : Nat} {a1 : Nat} {x2 : Int32} {q : (Int32 × Mem)} (t_a0 : K a0 = some (.inl 5)) (t_a1 : K a1 = some (.inl 0)) {m : Mem} (hf : f_X6_examine_189 K a0 a1 x2 m = some q) : VV w RX6 cX6_examine 5 (some .int) rm_X6_examine false (QM w K (some (.int q.1)) q.2 0 0) K 189 [some (.ref a0), none, none, none, none] [] 0 0 m := by
  unfold f_X6_examine_189 at hf
  refine vv_aload_n 190 dX6_examine_189 rfl rfl ?_
  refine vv_iconst 191 (v := 0) dX6_examine_190 rfl (by decide) ?_
  obtain ⟨m1, e_m1, hf⟩ := bd_s hf
  refine pf_RX6_56 194 dX6_examine_191 rfl t_a0 e_m1 ?_
  refine vv_bipush 196 (v := 7) dX6_examine_194 rfl (by decide) ?_
  obtain rfl := Option.some.inj hf
  exact vv_iret dX6_examine_196 rfl

set_option maxHeartbeats 4000000 in
theorem v_X6_examine_197 {w : Wo} {K : Kn} {a0 : Nat} {a1 : Nat} {x2 : Int32} {q : (Int32 × Mem)} (t_a0 : K a0 = some (.inl 5)) (t_a1 : K a1 = some (.inl 0)) {m : Mem} (hf : f_X6_examine_197 K a0 a1 x2 m = some q) : VV w RX6 cX6_examine 5 (some .int) rm_X6_examine false (QM w K (some (.int q.1)) q.2 0 0) K 197 [some (.ref a0), none, none, none, none] [] 0 0 m := by
  unfold f_X6_examine_197 at hf
  refine vv_aload_n 198 dX6_examine_197 rfl rfl ?_
  refine vv_iconst 199 (v := (-1)) dX6_examine_198 rfl (by decide) ?_
  obtain ⟨m1, e_m1, hf⟩ := bd_s hf
  refine pf_RX6_56 202 dX6_examine_199 rfl t_a0 e_m1 ?_
  refine vv_iconst 203 (v := 0) dX6_examine_202 rfl (by decide) ?_
  obtain rfl := Option.some.inj hf
  exact vv_iret dX6_examine_203 rfl

set_option maxHeartbeats 4000000 in
theorem v_X6_examine_73B {w : Wo} {K : Kn} {a0 : Nat} {a1 : Nat} {x2 : Int32} {q : (Int32 × Mem)} (t_a0 : K a0 = some (.inl 5)) (t_a1 : K a1 = some (.inl 0)) (k73 : Mem → Int32 → Option (Int32 × Mem)) (hk73 : ∀ (m : Mem) (x3 : Int32), k73 m x3 = some q → VV w RX6 cX6_examine 5 (some .int) rm_X6_examine false (QM w K (some (.int q.1)) q.2 0 0) K 73 [some (.ref a0), some (.ref a1), some (.int x2), some (.int x3), none] [] 0 0 m) {m : Mem} {x3 : Int32} (hf : f_X6_examine_73B K a0 a1 x2 k73 m x3 = some q) : VV w RX6 cX6_examine 5 (some .int) rm_X6_examine false (QM w K (some (.int q.1)) q.2 0 0) K 73 [some (.ref a0), some (.ref a1), some (.int x2), some (.int x3), none] [] 0 0 m := by
  unfold f_X6_examine_73B at hf
  refine vv_iload_n 74 dX6_examine_73 rfl rfl ?_
  refine vv_aload_n 75 dX6_examine_74 rfl rfl ?_
  refine gf_RX6_49 78 dX6_examine_75 rfl t_a0 ?_
  refine vv_icmp_ge 112 81 dX6_examine_78 rfl (by decide) (fun c1 => ?_) (fun c1 => ?_)
  · rw [if_pos c1] at hf
    refine vv_aload_n 113 dX6_examine_112 rfl rfl ?_
    refine vv_aload_n 114 dX6_examine_113 rfl rfl ?_
    refine gf_RX6_36 117 dX6_examine_114 rfl t_a0 ?_
    refine vv_bipush 119 (v := 112) dX6_examine_117 rfl (by decide) ?_
    refine vv_isub 120 dX6_examine_119 rfl ?_
    obtain ⟨m2, e_m2, hf⟩ := bd_s hf
    refine pf_RX6_75 123 dX6_examine_120 rfl t_a0 e_m2 ?_
    refine vv_aload_n 124 dX6_examine_123 rfl rfl ?_
    refine vv_aload_n 125 dX6_examine_124 rfl rfl ?_
    refine gf_RX6_75 128 dX6_examine_125 rfl t_a0 ?_
    obtain ⟨m3, e_m3, hf⟩ := bd_s hf
    refine pf_RX6_56 131 dX6_examine_128 rfl t_a0 e_m3 ?_
    refine vv_aload_n 132 dX6_examine_131 rfl rfl ?_
    refine gf_RX6_33 135 dX6_examine_132 rfl t_a0 ?_
    refine vv_aload_n 136 dX6_examine_135 rfl rfl ?_
    refine gf_RX6_36 139 dX6_examine_136 rfl t_a0 ?_
    refine vv_isub 140 dX6_examine_139 rfl ?_
    obtain ⟨z4, e_z4, hf⟩ := bd_s hf
    refine vv_istore_nE (q := 141) (v := z4) (L' := [some (.ref a0), some (.ref a1), some (.int x2), some (.int z4), none]) e_z4 dX6_examine_140 rfl (Nat.le_of_ble_eq_true rfl) rfl ?_
    refine vv_iload_n 142 dX6_examine_141 rfl rfl ?_
    refine vv_bipush 144 (v := 7) dX6_examine_142 rfl (by decide) ?_
    refine vv_icmp_gt 157 147 dX6_examine_144 rfl (by decide) (fun c5 => ?_) (fun c5 => ?_)
    · rw [if_pos c5] at hf
      refine vv_bipush 159 (v := 6) dX6_examine_157 rfl (by decide) ?_
      obtain rfl := Option.some.inj hf
      exact vv_iret dX6_examine_159 rfl
    · rw [if_neg c5] at hf
      refine vv_aload_n 148 dX6_examine_147 rfl rfl ?_
      refine vv_iload_n 149 dX6_examine_148 rfl rfl ?_
      obtain ⟨q6, g_q6, hf⟩ := bind_s hf
      refine vv_callV 152 (st := []) (As := [.int z4]) (stk2 := [.long q6.1]) (cl2 := 0) (sl2 := 0) dX6_examine_149 rfl lk_RX6_42 w_633 w_6 rfl t_a0 ⟨(Nat.le_of_ble_eq_true rfl), (Nat.le_of_ble_eq_true rfl)⟩ rfl rfl ⟨(Nat.le_of_ble_eq_true rfl), (Nat.le_of_ble_eq_true rfl)⟩ rfl (Nat.le_of_ble_eq_true rfl) rfl rfl rfl rfl (c_X6_takeBits t_a0 g_q6) ?_
      refine vv_lconst 153 (v := 0) dX6_examine_152 rfl (by decide) ?_
      refine vv_lcmp 154 dX6_examine_153 rfl ?_
      refine vv_if_eq 160 157 dX6_examine_154 rfl (by decide) (fun c7 => ?_) (fun c7 => ?_)
      · rw [if_pos c7] at hf
        refine vv_iload_n 161 dX6_examine_160 rfl rfl ?_
        refine vv_if_eq 197 164 dX6_examine_161 rfl (by decide) (fun c8 => ?_) (fun c8 => ?_)
        · rw [if_pos c8] at hf
          exact VV.lle (v_X6_examine_197 t_a0 t_a1 hf) (lle_s (lle_n (lle_n (lle_n (lle_s lle_nil)))))
        · rw [if_neg c8] at hf
          refine vv_aload_n 165 dX6_examine_164 rfl rfl ?_
          refine gf_RX6_46 168 dX6_examine_165 rfl t_a0 ?_
          refine vv_aload_n 169 dX6_examine_168 rfl rfl ?_
          refine gf_RX6_78 172 dX6_examine_169 rfl t_a1 ?_
          refine vv_icmp_ne 189 175 dX6_examine_172 rfl (by decide) (fun c9 => ?_) (fun c9 => ?_)
          · rw [if_pos c9] at hf
            refine vv_aload_n 176 dX6_examine_175 rfl rfl ?_
            obtain ⟨b10, g_b10, hf⟩ := bind_s hf
            have t_b10 := (ldO_spec g_b10).2
            refine gf_RX6_12 179 dX6_examine_176 rfl t_a0 (ldO_spec g_b10).1 ?_
            refine gf_RX6_79 182 dX6_examine_179 rfl t_b10 ?_
            refine vv_aload_n 183 dX6_examine_182 rfl rfl ?_
            refine gf_RX6_82 186 dX6_examine_183 rfl t_a1 ?_
            refine vv_icmp_eq 197 189 dX6_examine_186 rfl (by decide) (fun c11 => ?_) (fun c11 => ?_)
            · rw [if_pos c11] at hf
              exact VV.lle (v_X6_examine_197 t_a0 t_a1 hf) (lle_s (lle_n (lle_n (lle_n (lle_s lle_nil)))))
            · rw [if_neg c11] at hf
              exact VV.lle (v_X6_examine_189 t_a0 t_a1 hf) (lle_s (lle_n (lle_n (lle_n (lle_s lle_nil)))))
          · rw [if_neg c9] at hf
            exact VV.lle (v_X6_examine_189 t_a0 t_a1 hf) (lle_s (lle_n (lle_n (lle_n (lle_s lle_nil)))))
      · rw [if_neg c7] at hf
        refine vv_bipush 159 (v := 6) dX6_examine_157 rfl (by decide) ?_
        obtain rfl := Option.some.inj hf
        exact vv_iret dX6_examine_159 rfl
  · rw [if_neg c1] at hf
    refine vv_aload_n 82 dX6_examine_81 rfl rfl ?_
    refine vv_aload_n 83 dX6_examine_82 rfl rfl ?_
    refine gf_RX6_36 86 dX6_examine_83 rfl t_a0 ?_
    refine vv_bipush 88 (v := 112) dX6_examine_86 rfl (by decide) ?_
    refine vv_isub 89 dX6_examine_88 rfl ?_
    obtain ⟨m12, e_m12, hf⟩ := bd_s hf
    refine pf_RX6_56 92 dX6_examine_89 rfl t_a0 e_m12 ?_
    refine vv_aload_n 93 dX6_examine_92 rfl rfl ?_
    obtain ⟨q13, g_q13, hf⟩ := bind_s hf
    refine vv_callV 96 (st := []) (As := []) (stk2 := [.int q13.1]) (cl2 := 0) (sl2 := 0) dX6_examine_93 rfl lk_RX6_71 w_638 w_639 rfl t_a0 ⟨(Nat.le_of_ble_eq_true rfl), (Nat.le_of_ble_eq_true rfl)⟩ rfl rfl ⟨(Nat.le_of_ble_eq_true rfl), (Nat.le_of_ble_eq_true rfl)⟩ rfl (Nat.le_of_ble_eq_true rfl) rfl rfl rfl rfl (c_X6_read t_a0 g_q13) ?_
    obtain ⟨z14, e_z14, hf⟩ := bd_s hf
    refine vv_istoreE (q := 98) (v := z14) (L' := [some (.ref a0), some (.ref a1), some (.int x2), some (.int x3), some (.int z14)]) e_z14 dX6_examine_96 rfl (Nat.le_of_ble_eq_true rfl) rfl ?_
    refine vv_iload 100 dX6_examine_98 rfl rfl ?_
    refine vv_if_eq 106 103 dX6_examine_100 rfl (by decide) (fun c15 => ?_) (fun c15 => ?_)
    · rw [if_pos c15] at hf
      obtain ⟨z16, e_z16, hf⟩ := bd_s hf
      refine vv_iincE (q := 109) (v := z16) (c := 1) (L' := [some (.ref a0), some (.ref a1), some (.int x2), some (.int z16), some (.int z14)]) e_z16 dX6_examine_106 rfl rfl (by decide) (Nat.le_of_ble_eq_true rfl) rfl ?_
      refine vv_goto 73 dX6_examine_109 (by decide) ?_
      exact VV.lle (hk73 _ _ hf) (lle_s (lle_s (lle_s (lle_s (lle_n lle_nil)))))
    · rw [if_neg c15] at hf
      refine vv_iload 105 dX6_examine_103 rfl rfl ?_
      obtain rfl := Option.some.inj hf
      exact vv_iret dX6_examine_105 rfl

theorem v_X6_examine_73 {w : Wo} {K : Kn} {a0 : Nat} {a1 : Nat} {x2 : Int32} {q : (Int32 × Mem)} (t_a0 : K a0 = some (.inl 5)) (t_a1 : K a1 = some (.inl 0)) : ∀ (n : Nat) (m : Mem) (x3 : Int32), f_X6_examine_73 K a0 a1 x2 n m x3 = some q → VV w RX6 cX6_examine 5 (some .int) rm_X6_examine false (QM w K (some (.int q.1)) q.2 0 0) K 73 [some (.ref a0), some (.ref a1), some (.int x2), some (.int x3), none] [] 0 0 m := by
  intro n
  induction n with
  | zero => intro m x3 hf; cases hf
  | succ n ih => intro m x3 hf; exact v_X6_examine_73B (a0 := a0) (a1 := a1) (x2 := x2) t_a0 t_a1 (f_X6_examine_73 K a0 a1 x2 n) ih hf

set_option maxHeartbeats 4000000 in
theorem v_X6_examine_0 {w : Wo} {K : Kn} {a0 : Nat} {a1 : Nat} {x2 : Int32} {q : (Int32 × Mem)} (t_a0 : K a0 = some (.inl 5)) (t_a1 : K a1 = some (.inl 0)) {m : Mem} (hf : f_X6_examine K a0 a1 x2 m = some q) : VV w RX6 cX6_examine 5 (some .int) rm_X6_examine false (QM w K (some (.int q.1)) q.2 0 0) K 0 [some (.ref a0), some (.ref a1), some (.int x2), none, none] [] 0 0 m := by
  unfold f_X6_examine at hf
  refine vv_aload_n 1 dX6_examine_0 rfl rfl ?_
  refine vv_iconst 2 (v := (-1)) dX6_examine_1 rfl (by decide) ?_
  obtain ⟨m1, e_m1, hf⟩ := bd_s hf
  refine pf_RX6_56 5 dX6_examine_2 rfl t_a0 e_m1 ?_
  refine vv_aload_n 6 dX6_examine_5 rfl rfl ?_
  refine gf_RX6_29 9 dX6_examine_6 rfl t_a1 ?_
  refine vv_bipush 11 (v := 14) dX6_examine_9 rfl (by decide) ?_
  refine vv_icmp_le 38 14 dX6_examine_11 rfl (by decide) (fun c2 => ?_) (fun c2 => ?_)
  · rw [if_pos c2] at hf
    refine vv_iconst 39 (v := 1) dX6_examine_38 rfl (by decide) ?_
    obtain rfl := Option.some.inj hf
    exact vv_iret dX6_examine_39 rfl
  · rw [if_neg c2] at hf
    refine vv_aload_n 15 dX6_examine_14 rfl rfl ?_
    obtain ⟨b3, g_b3, hf⟩ := bind_s hf
    have t_b3 := (ldA_spec g_b3).2
    refine gf_RX6_18 18 dX6_examine_15 rfl t_a1 (ldA_spec g_b3).1 ?_
    refine vv_aload_n 19 dX6_examine_18 rfl rfl ?_
    refine gf_RX6_29 22 dX6_examine_19 rfl t_a1 ?_
    refine vv_iconst 23 (v := 1) dX6_examine_22 rfl (by decide) ?_
    refine vv_isub 24 dX6_examine_23 rfl ?_
    obtain ⟨r4, g_r4, hf⟩ := bind_s hf
    refine vv_iald 25 dX6_examine_24 rfl t_b3 g_r4 ?_
    refine vv_aload_n 26 dX6_examine_25 rfl rfl ?_
    refine vv_aload_n 27 dX6_examine_26 rfl rfl ?_
    refine gf_RX6_29 30 dX6_examine_27 rfl t_a1 ?_
    refine vv_iconst 31 (v := 1) dX6_examine_30 rfl (by decide) ?_
    refine vv_isub 32 dX6_examine_31 rfl ?_
    obtain ⟨q5, g_q5, hf⟩ := bind_s hf
    refine vv_callV 35 (st := [.int r4]) (As := [.int ((gI m1 a1 1) - (1 : Int32))]) (stk2 := [.int q5, .int r4]) (cl2 := 0) (sl2 := 0) dX6_examine_32 rfl lk_RX6_59 w_551 w_552 rfl t_a1 ⟨(Nat.le_of_ble_eq_true rfl), (Nat.le_of_ble_eq_true rfl)⟩ rfl rfl ⟨(Nat.le_of_ble_eq_true rfl), (Nat.le_of_ble_eq_true rfl)⟩ rfl (Nat.le_of_ble_eq_true rfl) rfl rfl rfl rfl (c_X0_checkOf t_a1 g_q5) ?_
    refine vv_icmp_eq 40 38 dX6_examine_35 rfl (by decide) (fun c6 => ?_) (fun c6 => ?_)
    · rw [if_pos c6] at hf
      refine vv_aload_n 41 dX6_examine_40 rfl rfl ?_
      refine vv_aload_n 42 dX6_examine_41 rfl rfl ?_
      obtain ⟨q7, g_q7, hf⟩ := bind_s hf
      refine vv_callV 45 (st := []) (As := [.ref a1]) (stk2 := []) (cl2 := 0) (sl2 := 0) dX6_examine_42 rfl lk_RX6_63 w_628 w_629 rfl t_a0 ⟨(Nat.le_of_ble_eq_true rfl), (Nat.le_of_ble_eq_true rfl)⟩ rfl rfl ⟨(Nat.le_of_ble_eq_true rfl), (Nat.le_of_ble_eq_true rfl)⟩ rfl (Nat.le_of_ble_eq_true rfl) rfl rfl rfl rfl (c_X6_open t_a0 t_a1 g_q7) ?_
      refine vv_aload_n 46 dX6_examine_45 rfl rfl ?_
      refine vv_iconst 47 (v := 0) dX6_examine_46 rfl (by decide) ?_
      obtain ⟨m8, e_m8, hf⟩ := bd_s hf
      refine pf_RX6_56 50 dX6_examine_47 rfl t_a0 e_m8 ?_
      refine vv_aload_n 51 dX6_examine_50 rfl rfl ?_
      refine gf_RX6_49 54 dX6_examine_51 rfl t_a0 ?_
      refine vv_if_ne 59 57 dX6_examine_54 rfl (by decide) (fun c9 => ?_) (fun c9 => ?_)
      · rw [if_pos c9] at hf
        refine vv_iconst 58 (v := 5) dX6_examine_57 rfl (by decide) ?_
        obtain rfl := Option.some.inj hf
        exact vv_iret dX6_examine_58 rfl
      · rw [if_neg c9] at hf
        refine vv_aload_n 60 dX6_examine_59 rfl rfl ?_
        refine gf_RX6_46 63 dX6_examine_60 rfl t_a0 ?_
        obtain ⟨q10, g_q10, hf⟩ := bind_s hf
        refine vv_callSN 66 (st := []) (As := [.int (gI m8 a0 1)]) (stk2 := [.int q10]) (cl2 := 0) (sl2 := 0) dX6_examine_63 rfl lk_RX6_67 w_472 ⟨(Nat.le_of_ble_eq_true rfl), (Nat.le_of_ble_eq_true rfl)⟩ rfl rfl ⟨(Nat.le_of_ble_eq_true rfl), (Nat.le_of_ble_eq_true rfl)⟩ rfl (Nat.le_of_ble_eq_true rfl) rfl rfl rfl rfl (c_X8_isStamp g_q10) ?_
        refine vv_if_ne 71 69 dX6_examine_66 rfl (by decide) (fun c11 => ?_) (fun c11 => ?_)
        · rw [if_pos c11] at hf
          refine vv_iconst 70 (v := 3) dX6_examine_69 rfl (by decide) ?_
          obtain rfl := Option.some.inj hf
          exact vv_iret dX6_examine_70 rfl
        · rw [if_neg c11] at hf
          refine vv_iconst 72 (v := 1) dX6_examine_71 rfl (by decide) ?_
          refine vv_istore_n 73 (L' := [some (.ref a0), some (.ref a1), some (.int x2), some (.int (1 : Int32)), none]) dX6_examine_72 rfl (Nat.le_of_ble_eq_true rfl) rfl ?_
          exact v_X6_examine_73 t_a0 t_a1 FU _ _ hf
    · rw [if_neg c6] at hf
      refine vv_iconst 39 (v := 1) dX6_examine_38 rfl (by decide) ?_
      obtain rfl := Option.some.inj hf
      exact vv_iret dX6_examine_39 rfl

theorem c_X6_examine {w : Wo} {K : Kn} {a0 : Nat} {a1 : Nat} {x2 : Int32} {q : (Int32 × Mem)} {m : Mem} (t_a0 : K a0 = some (.inl 5)) (t_a1 : K a1 = some (.inl 0)) (hf : F_X6_examine K m a0 a1 x2 = some q) : MM w K K yX6_examine cX6_examine 5 (some .int) rm_X6_examine [.ref a0, .ref a1, .int x2] m (some (.int q.1)) q.2 0 0 :=
  mm_of (ini := false) (n := 2) (plainFor_of_name (by decide)) rfl (fun h => by first | rfl | cases h) (Nat.le_of_ble_eq_true rfl) rfl (v_X6_examine_0 t_a0 t_a1 hf)

set_option maxHeartbeats 4000000 in
theorem v_X0_settle_0 {w : Wo} {K : Kn} {a0 : Nat} {x1 : Int32} {a2 : Nat} {q : Mem} (t_a0 : K a0 = some (.inl 0)) (t_a2 : K a2 = some (.inl 5)) {m : Mem} (hf : f_X0_settle K a0 x1 a2 m = some q) : VV w RX0 cX0_settle 3 none rm_X0_settle false (QM w K none q 0 0) K 0 [some (.ref a0), some (.int x1), some (.ref a2)] [] 0 0 m := by
  unfold f_X0_settle at hf
  refine vv_aload_n 1 dX0_settle_0 rfl rfl ?_
  refine vv_iload_n 2 dX0_settle_1 rfl rfl ?_
  obtain ⟨m1, e_m1, hf⟩ := bd_s hf
  refine pf_RX0_46 5 dX0_settle_2 rfl t_a0 e_m1 ?_
  refine vv_aload_n 6 dX0_settle_5 rfl rfl ?_
  refine vv_aload_n 7 dX0_settle_6 rfl rfl ?_
  refine gf_RX0_99 10 dX0_settle_7 rfl t_a2 ?_
  obtain ⟨m2, e_m2, hf⟩ := bd_s hf
  refine pf_RX0_15 13 dX0_settle_10 rfl t_a0 e_m2 ?_
  refine vv_iload_n 14 dX0_settle_13 rfl rfl ?_
  refine vv_if_ne 33 17 dX0_settle_14 rfl (by decide) (fun c3 => ?_) (fun c3 => ?_)
  · rw [if_pos c3] at hf
    refine vv_aload_n 18 dX0_settle_17 rfl rfl ?_
    refine vv_aload_n 19 dX0_settle_18 rfl rfl ?_
    refine gf_RX0_102 22 dX0_settle_19 rfl t_a2 ?_
    obtain ⟨m4, e_m4, hf⟩ := bd_s hf
    refine pf_RX0_33 25 dX0_settle_22 rfl t_a0 e_m4 ?_
    refine vv_aload_n 26 dX0_settle_25 rfl rfl ?_
    refine vv_aload_n 27 dX0_settle_26 rfl rfl ?_
    refine gf_RX0_103 30 dX0_settle_27 rfl t_a2 ?_
    obtain ⟨m5, e_m5, hf⟩ := bd_s hf
    refine pf_RX0_30 33 dX0_settle_30 rfl t_a0 e_m5 ?_
    obtain rfl := Option.some.inj hf
    exact vv_vret dX0_settle_33 rfl
  · rw [if_neg c3] at hf
    obtain rfl := Option.some.inj hf
    exact vv_vret dX0_settle_33 rfl

theorem c_X0_settle {w : Wo} {K : Kn} {a0 : Nat} {x1 : Int32} {a2 : Nat} {q : Mem} {m : Mem} (t_a0 : K a0 = some (.inl 0)) (t_a2 : K a2 = some (.inl 5)) (hf : F_X0_settle K m a0 x1 a2 = some q) : MM w K K yX0_settle cX0_settle 3 none rm_X0_settle [.ref a0, .int x1, .ref a2] m none q 0 0 :=
  mm_of (ini := false) (n := 0) (plainFor_of_name (by decide)) rfl (fun h => by first | rfl | cases h) (Nat.le_of_ble_eq_true rfl) rfl (v_X0_settle_0 t_a0 t_a2 hf)

set_option maxHeartbeats 4000000 in
theorem v_X8_damage_0 {w : Wo} {K : Kn} {a0 : Nat} {x1 : Int32} {x2 : Int32} {x3 : Int32} {x4 : Int32} {q : (Int32 × Mem)} (t_a0 : K a0 = some (.inl 7)) {m : Mem} (hf : f_X8_damage K a0 x1 x2 x3 x4 m = some q) : VV w RX8 cX8_damage 7 (some .int) rm_X8_damage false (QM w K (some (.int q.1)) q.2 0 0) K 0 [some (.ref a0), some (.int x1), some (.int x2), some (.int x3), some (.int x4), none, none] [] 0 0 m := by
  unfold f_X8_damage at hf
  refine vv_aload_n 1 dX8_damage_0 rfl rfl ?_
  refine vv_iload_n 2 dX8_damage_1 rfl rfl ?_
  refine vv_iload_n 3 dX8_damage_2 rfl rfl ?_
  obtain ⟨q1, g_q1, hf⟩ := bind_s hf
  refine vv_callV 6 (st := []) (As := [.int x1, .int x2]) (stk2 := [va_rf q1]) (cl2 := 0) (sl2 := 0) dX8_damage_3 rfl lk_RX8_122 w_595 w_4 rfl t_a0 ⟨(Nat.le_of_ble_eq_true rfl), (Nat.le_of_ble_eq_true rfl)⟩ rfl rfl ⟨(Nat.le_of_ble_eq_true rfl), (Nat.le_of_ble_eq_true rfl)⟩ rfl (Nat.le_of_ble_eq_true rfl) rfl rfl rfl rfl (c_X8_blockOf t_a0 g_q1) ?_
  rcases caseO_s hf with ⟨ho, hf⟩ | ⟨b2, ho, hf⟩
  · subst ho
    refine vv_astoreN 8 (L' := [some (.ref a0), some (.int x1), some (.int x2), some (.int x3), some (.int x4), some (.null), none]) dX8_damage_6 rfl (Nat.le_of_ble_eq_true rfl) rfl ?_
    refine vv_aloadN 10 dX8_damage_8 rfl rfl ?_
    refine vv_ifnullN 39 dX8_damage_10 (by decide) ?_
    refine vv_bipush 41 (v := (-2)) dX8_damage_39 rfl (by decide) ?_
    obtain rfl := Option.some.inj hf
    exact vv_iret dX8_damage_41 rfl
  · subst ho
    obtain ⟨t_b2, hf⟩ := gd_s hf
    refine vv_astore 8 (L' := [some (.ref a0), some (.int x1), some (.int x2), some (.int x3), some (.int x4), some (.ref b2), none]) dX8_damage_6 rfl (Nat.le_of_ble_eq_true rfl) rfl ?_
    refine vv_aload 10 dX8_damage_8 rfl rfl ?_
    refine vv_ifnull 13 dX8_damage_10 rfl ?_
    refine vv_iload_n 14 dX8_damage_13 rfl rfl ?_
    refine vv_if_lt 39 17 dX8_damage_14 rfl (by decide) (fun c3 => ?_) (fun c3 => ?_)
    · rw [if_pos c3] at hf
      refine vv_bipush 41 (v := (-2)) dX8_damage_39 rfl (by decide) ?_
      obtain rfl := Option.some.inj hf
      exact vv_iret dX8_damage_41 rfl
    · rw [if_neg c3] at hf
      refine vv_iload_n 18 dX8_damage_17 rfl rfl ?_
      refine vv_aload 20 dX8_damage_18 rfl rfl ?_
      refine gf_RX8_121 23 dX8_damage_20 rfl t_b2 ?_
      refine vv_icmp_ge 39 26 dX8_damage_23 rfl (by decide) (fun c4 => ?_) (fun c4 => ?_)
      · rw [if_pos c4] at hf
        refine vv_bipush 41 (v := (-2)) dX8_damage_39 rfl (by decide) ?_
        obtain rfl := Option.some.inj hf
        exact vv_iret dX8_damage_41 rfl
      · rw [if_neg c4] at hf
        refine vv_iload 28 dX8_damage_26 rfl rfl ?_
        refine vv_if_lt 39 31 dX8_damage_28 rfl (by decide) (fun c5 => ?_) (fun c5 => ?_)
        · rw [if_pos c5] at hf
          refine vv_bipush 41 (v := (-2)) dX8_damage_39 rfl (by decide) ?_
          obtain rfl := Option.some.inj hf
          exact vv_iret dX8_damage_41 rfl
        · rw [if_neg c5] at hf
          refine vv_iload 33 dX8_damage_31 rfl rfl ?_
          refine vv_sipush 36 (v := 255) dX8_damage_33 rfl (by decide) ?_
          refine vv_icmp_le 42 39 dX8_damage_36 rfl (by decide) (fun c6 => ?_) (fun c6 => ?_)
          · rw [if_pos c6] at hf
            refine vv_aload 44 dX8_damage_42 rfl rfl ?_
            refine gf_RX8_133 47 dX8_damage_44 rfl t_b2 ?_
            refine vv_if_ne 53 50 dX8_damage_47 rfl (by decide) (fun c7 => ?_) (fun c7 => ?_)
            · rw [if_pos c7] at hf
              refine vv_bipush 52 (v := (-5)) dX8_damage_50 rfl (by decide) ?_
              obtain rfl := Option.some.inj hf
              exact vv_iret dX8_damage_52 rfl
            · rw [if_neg c7] at hf
              refine vv_aload 55 dX8_damage_53 rfl rfl ?_
              obtain ⟨b8, g_b8, hf⟩ := bind_s hf
              have t_b8 := (ldA_spec g_b8).2
              refine gf_RX8_189 58 dX8_damage_55 rfl t_b2 (ldA_spec g_b8).1 ?_
              refine vv_iload_n 59 dX8_damage_58 rfl rfl ?_
              obtain ⟨r9, g_r9, hf⟩ := bind_s hf
              refine vv_iald 60 dX8_damage_59 rfl t_b8 g_r9 ?_
              refine vv_istore 62 (L' := [some (.ref a0), some (.int x1), some (.int x2), some (.int x3), some (.int x4), some (.ref b2), some (.int r9)]) dX8_damage_60 rfl (Nat.le_of_ble_eq_true rfl) rfl ?_
              refine vv_aload 64 dX8_damage_62 rfl rfl ?_
              obtain ⟨b10, g_b10, hf⟩ := bind_s hf
              have t_b10 := (ldA_spec g_b10).2
              refine gf_RX8_189 67 dX8_damage_64 rfl t_b2 (ldA_spec g_b10).1 ?_
              refine vv_iload_n 68 dX8_damage_67 rfl rfl ?_
              refine vv_iload 70 dX8_damage_68 rfl rfl ?_
              obtain ⟨m11, g_m11, hf⟩ := bind_s hf
              refine vv_iast 71 dX8_damage_70 rfl t_b10 g_m11 ?_
              refine vv_aload 73 dX8_damage_71 rfl rfl ?_
              refine vv_aload_n 74 dX8_damage_73 rfl rfl ?_
              obtain ⟨b12, g_b12, hf⟩ := bind_s hf
              have t_b12 := (ldO_spec g_b12).2
              refine gf_RX8_44 77 dX8_damage_74 rfl t_a0 (ldO_spec g_b12).1 ?_
              refine vv_aload 79 dX8_damage_77 rfl rfl ?_
              refine vv_iconst 80 (v := 1) dX8_damage_79 rfl (by decide) ?_
              obtain ⟨q13, g_q13, hf⟩ := bind_s hf
              refine vv_callV 83 (st := [.ref b2]) (As := [.ref b2, .int (1 : Int32)]) (stk2 := [.int q13.1, .ref b2]) (cl2 := 0) (sl2 := 0) dX8_damage_80 rfl lk_RX8_141 w_623 w_624 rfl t_b12 ⟨(Nat.le_of_ble_eq_true rfl), (Nat.le_of_ble_eq_true rfl)⟩ rfl rfl ⟨(Nat.le_of_ble_eq_true rfl), (Nat.le_of_ble_eq_true rfl)⟩ rfl (Nat.le_of_ble_eq_true rfl) rfl rfl rfl rfl (c_X6_examine t_b12 t_b2 g_q13) ?_
              refine vv_aload_n 84 dX8_damage_83 rfl rfl ?_
              obtain ⟨b14, g_b14, hf⟩ := bind_s hf
              have t_b14 := (ldO_spec g_b14).2
              refine gf_RX8_44 87 dX8_damage_84 rfl t_a0 (ldO_spec g_b14).1 ?_
              obtain ⟨q15, g_q15, hf⟩ := bind_s hf
              refine vv_callV 90 (st := []) (As := [.int q13.1, .ref b14]) (stk2 := []) (cl2 := 0) (sl2 := 0) dX8_damage_87 rfl lk_RX8_157 w_662 w_663 rfl t_b2 ⟨(Nat.le_of_ble_eq_true rfl), (Nat.le_of_ble_eq_true rfl)⟩ rfl rfl ⟨(Nat.le_of_ble_eq_true rfl), (Nat.le_of_ble_eq_true rfl)⟩ rfl (Nat.le_of_ble_eq_true rfl) rfl rfl rfl rfl (c_X0_settle t_b2 t_b14 g_q15) ?_
              refine vv_iload 92 dX8_damage_90 rfl rfl ?_
              obtain rfl := Option.some.inj hf
              exact vv_iret dX8_damage_92 rfl
          · rw [if_neg c6] at hf
            refine vv_bipush 41 (v := (-2)) dX8_damage_39 rfl (by decide) ?_
            obtain rfl := Option.some.inj hf
            exact vv_iret dX8_damage_41 rfl

theorem c_X8_damage {w : Wo} {K : Kn} {a0 : Nat} {x1 : Int32} {x2 : Int32} {x3 : Int32} {x4 : Int32} {q : (Int32 × Mem)} {m : Mem} (t_a0 : K a0 = some (.inl 7)) (hf : F_X8_damage K m a0 x1 x2 x3 x4 = some q) : MM w K K yX8_damage cX8_damage 7 (some .int) rm_X8_damage [.ref a0, .int x1, .int x2, .int x3, .int x4] m (some (.int q.1)) q.2 0 0 :=
  mm_of (ini := false) (n := 2) (plainFor_of_name (by decide)) rfl (fun h => by first | rfl | cases h) (Nat.le_of_ble_eq_true rfl) rfl (v_X8_damage_0 t_a0 hf)

set_option maxHeartbeats 4000000 in
theorem v_X8_has_0 {w : Wo} {K : Kn} {a0 : Nat} {x1 : Int32} {x2 : Int32} {q : (Int32 × Mem)} (t_a0 : K a0 = some (.inl 7)) {m : Mem} (hf : f_X8_has K a0 x1 x2 m = some q) : VV w RX8 cX8_has 3 (some .int) rm_X8_has false (QM w K (some (.int q.1)) q.2 0 0) K 0 [some (.ref a0), some (.int x1), some (.int x2)] [] 0 0 m := by
  unfold f_X8_has at hf
  refine vv_aload_n 1 dX8_has_0 rfl rfl ?_
  refine vv_iload_n 2 dX8_has_1 rfl rfl ?_
  obtain ⟨q1, g_q1, hf⟩ := bind_s hf
  refine vv_callV 5 (st := []) (As := [.int x1]) (stk2 := [.int q1]) (cl2 := 0) (sl2 := 0) dX8_has_2 rfl lk_RX8_81 w_469 w_0 rfl t_a0 ⟨(Nat.le_of_ble_eq_true rfl), (Nat.le_of_ble_eq_true rfl)⟩ rfl rfl ⟨(Nat.le_of_ble_eq_true rfl), (Nat.le_of_ble_eq_true rfl)⟩ rfl (Nat.le_of_ble_eq_true rfl) rfl rfl rfl rfl (c_X8_isNone t_a0 g_q1) ?_
  refine vv_if_ne 15 8 dX8_has_5 rfl (by decide) (fun c2 => ?_) (fun c2 => ?_)
  · rw [if_pos c2] at hf
    refine vv_iload_n 9 dX8_has_8 rfl rfl ?_
    obtain ⟨q3, g_q3, hf⟩ := bind_s hf
    refine vv_callS 12 (st := []) (As := [.int x2]) (stk2 := [.int q3]) (cl2 := 0) (sl2 := 0) dX8_has_9 rfl lk_RX8_84 w_472 ⟨(Nat.le_of_ble_eq_true rfl), (Nat.le_of_ble_eq_true rfl)⟩ rfl rfl ⟨(Nat.le_of_ble_eq_true rfl), (Nat.le_of_ble_eq_true rfl)⟩ rfl (Nat.le_of_ble_eq_true rfl) rfl rfl rfl rfl (c_X8_isStamp g_q3) ?_
    refine vv_if_ne 18 15 dX8_has_12 rfl (by decide) (fun c4 => ?_) (fun c4 => ?_)
    · rw [if_pos c4] at hf
      refine vv_bipush 17 (v := (-2)) dX8_has_15 rfl (by decide) ?_
      obtain rfl := Option.some.inj hf
      exact vv_iret dX8_has_17 rfl
    · rw [if_neg c4] at hf
      refine vv_aload_n 19 dX8_has_18 rfl rfl ?_
      obtain ⟨b5, g_b5, hf⟩ := bind_s hf
      have t_b5 := (ldA_spec g_b5).2
      refine gf_RX8_11 22 dX8_has_19 rfl t_a0 (ldA_spec g_b5).1 ?_
      refine vv_iload_n 23 dX8_has_22 rfl rfl ?_
      obtain ⟨b6, g_b6, hf⟩ := bind_s hf
      have t_b6 := (alO_spec g_b6).2
      refine vv_aald3 24 dX8_has_23 rfl t_b5 g_b6 ?_
      refine vv_iload_n 25 dX8_has_24 rfl rfl ?_
      refine vv_iload_n 26 dX8_has_25 rfl rfl ?_
      refine vv_aload_n 27 dX8_has_26 rfl rfl ?_
      obtain ⟨b7, g_b7, hf⟩ := bind_s hf
      have t_b7 := (ldO_spec g_b7).2
      refine gf_RX8_44 30 dX8_has_27 rfl t_a0 (ldO_spec g_b7).1 ?_
      refine vv_aload_n 31 dX8_has_30 rfl rfl ?_
      obtain ⟨b8, g_b8, hf⟩ := bind_s hf
      have t_b8 := (ldO_spec g_b8).2
      refine gf_RX8_25 34 dX8_has_31 rfl t_a0 (ldO_spec g_b8).1 ?_
      obtain ⟨q9, g_q9, hf⟩ := bind_s hf
      refine vv_callV 37 (st := []) (As := [.int x2, .int x2, .ref b7, .ref b8]) (stk2 := []) (cl2 := 0) (sl2 := 0) dX8_has_34 rfl lk_RX8_228 w_697 w_698 rfl t_b6 ⟨(Nat.le_of_ble_eq_true rfl), (Nat.le_of_ble_eq_true rfl)⟩ rfl rfl ⟨(Nat.le_of_ble_eq_true rfl), (Nat.le_of_ble_eq_true rfl)⟩ rfl (Nat.le_of_ble_eq_true rfl) rfl rfl rfl rfl (c_X7_gather t_b6 t_b7 t_b8 g_q9) ?_
      refine vv_aload_n 38 dX8_has_37 rfl rfl ?_
      obtain ⟨b10, g_b10, hf⟩ := bind_s hf
      have t_b10 := (ldO_spec g_b10).2
      refine gf_RX8_25 41 dX8_has_38 rfl t_a0 (ldO_spec g_b10).1 ?_
      refine gf_RX8_102 44 dX8_has_41 rfl t_b10 ?_
      refine vv_if_le 51 47 dX8_has_44 rfl (by decide) (fun c11 => ?_) (fun c11 => ?_)
      · rw [if_pos c11] at hf
        refine vv_iconst 52 (v := 0) dX8_has_51 rfl (by decide) ?_
        obtain rfl := Option.some.inj hf
        exact vv_iret dX8_has_52 rfl
      · rw [if_neg c11] at hf
        refine vv_iconst 48 (v := 1) dX8_has_47 rfl (by decide) ?_
        refine vv_goto 52 dX8_has_48 (by decide) ?_
        obtain rfl := Option.some.inj hf
        exact vv_iret dX8_has_52 rfl
  · rw [if_neg c2] at hf
    refine vv_bipush 17 (v := (-2)) dX8_has_15 rfl (by decide) ?_
    obtain rfl := Option.some.inj hf
    exact vv_iret dX8_has_17 rfl

theorem c_X8_has {w : Wo} {K : Kn} {a0 : Nat} {x1 : Int32} {x2 : Int32} {q : (Int32 × Mem)} {m : Mem} (t_a0 : K a0 = some (.inl 7)) (hf : F_X8_has K m a0 x1 x2 = some q) : MM w K K yX8_has cX8_has 3 (some .int) rm_X8_has [.ref a0, .int x1, .int x2] m (some (.int q.1)) q.2 0 0 :=
  mm_of (ini := false) (n := 0) (plainFor_of_name (by decide)) rfl (fun h => by first | rfl | cases h) (Nat.le_of_ble_eq_true rfl) rfl (v_X8_has_0 t_a0 hf)

set_option maxHeartbeats 4000000 in
theorem v_X8_at_0 {w : Wo} {K : Kn} {a0 : Nat} {x1 : Int32} {x2 : Int32} {q : (Int64 × Mem)} (t_a0 : K a0 = some (.inl 7)) {m : Mem} (hf : f_X8_at K a0 x1 x2 m = some q) : VV w RX8 cX8_at 3 (some .long) rm_X8_at false (QM w K (some (.long q.1)) q.2 0 0) K 0 [some (.ref a0), some (.int x1), some (.int x2)] [] 0 0 m := by
  unfold f_X8_at at hf
  refine vv_aload_n 1 dX8_at_0 rfl rfl ?_
  refine vv_iload_n 2 dX8_at_1 rfl rfl ?_
  obtain ⟨q1, g_q1, hf⟩ := bind_s hf
  refine vv_callV 5 (st := []) (As := [.int x1]) (stk2 := [.int q1]) (cl2 := 0) (sl2 := 0) dX8_at_2 rfl lk_RX8_81 w_469 w_0 rfl t_a0 ⟨(Nat.le_of_ble_eq_true rfl), (Nat.le_of_ble_eq_true rfl)⟩ rfl rfl ⟨(Nat.le_of_ble_eq_true rfl), (Nat.le_of_ble_eq_true rfl)⟩ rfl (Nat.le_of_ble_eq_true rfl) rfl rfl rfl rfl (c_X8_isNone t_a0 g_q1) ?_
  refine vv_if_ne 15 8 dX8_at_5 rfl (by decide) (fun c2 => ?_) (fun c2 => ?_)
  · rw [if_pos c2] at hf
    refine vv_iload_n 9 dX8_at_8 rfl rfl ?_
    obtain ⟨q3, g_q3, hf⟩ := bind_s hf
    refine vv_callS 12 (st := []) (As := [.int x2]) (stk2 := [.int q3]) (cl2 := 0) (sl2 := 0) dX8_at_9 rfl lk_RX8_84 w_472 ⟨(Nat.le_of_ble_eq_true rfl), (Nat.le_of_ble_eq_true rfl)⟩ rfl rfl ⟨(Nat.le_of_ble_eq_true rfl), (Nat.le_of_ble_eq_true rfl)⟩ rfl (Nat.le_of_ble_eq_true rfl) rfl rfl rfl rfl (c_X8_isStamp g_q3) ?_
    refine vv_if_ne 17 15 dX8_at_12 rfl (by decide) (fun c4 => ?_) (fun c4 => ?_)
    · rw [if_pos c4] at hf
      refine vv_lconst 16 (v := 0) dX8_at_15 rfl (by decide) ?_
      obtain rfl := Option.some.inj hf
      exact vv_lret dX8_at_16 rfl
    · rw [if_neg c4] at hf
      refine vv_aload_n 18 dX8_at_17 rfl rfl ?_
      obtain ⟨b5, g_b5, hf⟩ := bind_s hf
      have t_b5 := (ldA_spec g_b5).2
      refine gf_RX8_11 21 dX8_at_18 rfl t_a0 (ldA_spec g_b5).1 ?_
      refine vv_iload_n 22 dX8_at_21 rfl rfl ?_
      obtain ⟨b6, g_b6, hf⟩ := bind_s hf
      have t_b6 := (alO_spec g_b6).2
      refine vv_aald3 23 dX8_at_22 rfl t_b5 g_b6 ?_
      refine vv_iload_n 24 dX8_at_23 rfl rfl ?_
      refine vv_iload_n 25 dX8_at_24 rfl rfl ?_
      refine vv_aload_n 26 dX8_at_25 rfl rfl ?_
      obtain ⟨b7, g_b7, hf⟩ := bind_s hf
      have t_b7 := (ldO_spec g_b7).2
      refine gf_RX8_44 29 dX8_at_26 rfl t_a0 (ldO_spec g_b7).1 ?_
      refine vv_aload_n 30 dX8_at_29 rfl rfl ?_
      obtain ⟨b8, g_b8, hf⟩ := bind_s hf
      have t_b8 := (ldO_spec g_b8).2
      refine gf_RX8_25 33 dX8_at_30 rfl t_a0 (ldO_spec g_b8).1 ?_
      obtain ⟨q9, g_q9, hf⟩ := bind_s hf
      refine vv_callV 36 (st := []) (As := [.int x2, .int x2, .ref b7, .ref b8]) (stk2 := []) (cl2 := 0) (sl2 := 0) dX8_at_33 rfl lk_RX8_228 w_697 w_698 rfl t_b6 ⟨(Nat.le_of_ble_eq_true rfl), (Nat.le_of_ble_eq_true rfl)⟩ rfl rfl ⟨(Nat.le_of_ble_eq_true rfl), (Nat.le_of_ble_eq_true rfl)⟩ rfl (Nat.le_of_ble_eq_true rfl) rfl rfl rfl rfl (c_X7_gather t_b6 t_b7 t_b8 g_q9) ?_
      refine vv_aload_n 37 dX8_at_36 rfl rfl ?_
      obtain ⟨b10, g_b10, hf⟩ := bind_s hf
      have t_b10 := (ldO_spec g_b10).2
      refine gf_RX8_25 40 dX8_at_37 rfl t_a0 (ldO_spec g_b10).1 ?_
      refine gf_RX8_102 43 dX8_at_40 rfl t_b10 ?_
      refine vv_if_le 58 46 dX8_at_43 rfl (by decide) (fun c11 => ?_) (fun c11 => ?_)
      · rw [if_pos c11] at hf
        refine vv_lconst 59 (v := 0) dX8_at_58 rfl (by decide) ?_
        obtain rfl := Option.some.inj hf
        exact vv_lret dX8_at_59 rfl
      · rw [if_neg c11] at hf
        refine vv_aload_n 47 dX8_at_46 rfl rfl ?_
        obtain ⟨b12, g_b12, hf⟩ := bind_s hf
        have t_b12 := (ldO_spec g_b12).2
        refine gf_RX8_25 50 dX8_at_47 rfl t_a0 (ldO_spec g_b12).1 ?_
        obtain ⟨b13, g_b13, hf⟩ := bind_s hf
        have t_b13 := (ldA_spec g_b13).2
        refine gf_RX8_232 53 dX8_at_50 rfl t_b12 (ldA_spec g_b13).1 ?_
        refine vv_iconst 54 (v := 0) dX8_at_53 rfl (by decide) ?_
        obtain ⟨r14, g_r14, hf⟩ := bind_s hf
        refine vv_lald 55 dX8_at_54 rfl t_b13 g_r14 ?_
        refine vv_goto 59 dX8_at_55 (by decide) ?_
        obtain rfl := Option.some.inj hf
        exact vv_lret dX8_at_59 rfl
  · rw [if_neg c2] at hf
    refine vv_lconst 16 (v := 0) dX8_at_15 rfl (by decide) ?_
    obtain rfl := Option.some.inj hf
    exact vv_lret dX8_at_16 rfl

theorem c_X8_at {w : Wo} {K : Kn} {a0 : Nat} {x1 : Int32} {x2 : Int32} {q : (Int64 × Mem)} {m : Mem} (t_a0 : K a0 = some (.inl 7)) (hf : F_X8_at K m a0 x1 x2 = some q) : MM w K K yX8_at cX8_at 3 (some .long) rm_X8_at [.ref a0, .int x1, .int x2] m (some (.long q.1)) q.2 0 0 :=
  mm_of (ini := false) (n := 0) (plainFor_of_name (by decide)) rfl (fun h => by first | rfl | cases h) (Nat.le_of_ble_eq_true rfl) rfl (v_X8_at_0 t_a0 hf)

set_option maxHeartbeats 4000000 in
theorem v_X5_closest_57 {w : Wo} {K : Kn} {a0 : Nat} {x1 : Int32} {q : Int32} {m : Mem} (t_a0 : K a0 = some (.inl 4)) {x2 : Int32} (hf : f_X5_closest_57 K m a0 x1 x2 = some q) : VV w RX5 cX5_closest 3 (some .int) rm_X5_closest false (QM w K (some (.int q)) m 0 0) K 57 [some (.ref a0), none, some (.int x2)] [] 0 0 m := by
  unfold f_X5_closest_57 at hf
  refine vv_aload_n 58 dX5_closest_57 rfl rfl ?_
  obtain ⟨b1, g_b1, hf⟩ := bind_s hf
  have t_b1 := (ldA_spec g_b1).2
  refine gf_RX5_9 61 dX5_closest_58 rfl t_a0 (ldA_spec g_b1).1 ?_
  refine vv_iload_n 62 dX5_closest_61 rfl rfl ?_
  refine vv_iconst 63 (v := 1) dX5_closest_62 rfl (by decide) ?_
  refine vv_isub 64 dX5_closest_63 rfl ?_
  obtain ⟨r2, g_r2, hf⟩ := bind_s hf
  refine vv_iald 65 dX5_closest_64 rfl t_b1 g_r2 ?_
  obtain rfl := Option.some.inj hf
  exact vv_iret dX5_closest_65 rfl

set_option maxHeartbeats 4000000 in
theorem v_X5_closest_0 {w : Wo} {K : Kn} {a0 : Nat} {x1 : Int32} {q : Int32} {m : Mem} (t_a0 : K a0 = some (.inl 4)) (hf : f_X5_closest K m a0 x1 = some q) : VV w RX5 cX5_closest 3 (some .int) rm_X5_closest false (QM w K (some (.int q)) m 0 0) K 0 [some (.ref a0), some (.int x1), none] [] 0 0 m := by
  unfold f_X5_closest at hf
  refine vv_aload_n 1 dX5_closest_0 rfl rfl ?_
  refine vv_iload_n 2 dX5_closest_1 rfl rfl ?_
  obtain ⟨q1, g_q1, hf⟩ := bind_s hf
  refine vv_callV 5 (st := []) (As := [.int x1]) (stk2 := [.int q1]) (cl2 := 0) (sl2 := 0) dX5_closest_2 rfl lk_RX5_27 w_575 w_576 rfl t_a0 ⟨(Nat.le_of_ble_eq_true rfl), (Nat.le_of_ble_eq_true rfl)⟩ rfl rfl ⟨(Nat.le_of_ble_eq_true rfl), (Nat.le_of_ble_eq_true rfl)⟩ rfl (Nat.le_of_ble_eq_true rfl) rfl rfl rfl rfl (c_X5_firstFrom t_a0 g_q1) ?_
  refine vv_istore_n 6 (L' := [some (.ref a0), some (.int x1), some (.int q1)]) dX5_closest_5 rfl (Nat.le_of_ble_eq_true rfl) rfl ?_
  refine vv_iload_n 7 dX5_closest_6 rfl rfl ?_
  refine vv_if_ne 28 10 dX5_closest_7 rfl (by decide) (fun c2 => ?_) (fun c2 => ?_)
  · rw [if_pos c2] at hf
    refine vv_aload_n 11 dX5_closest_10 rfl rfl ?_
    refine gf_RX5_19 14 dX5_closest_11 rfl t_a0 ?_
    refine vv_if_le 26 17 dX5_closest_14 rfl (by decide) (fun c3 => ?_) (fun c3 => ?_)
    · rw [if_pos c3] at hf
      refine vv_iconst 27 (v := (-1)) dX5_closest_26 rfl (by decide) ?_
      obtain rfl := Option.some.inj hf
      exact vv_iret dX5_closest_27 rfl
    · rw [if_neg c3] at hf
      refine vv_aload_n 18 dX5_closest_17 rfl rfl ?_
      obtain ⟨b4, g_b4, hf⟩ := bind_s hf
      have t_b4 := (ldA_spec g_b4).2
      refine gf_RX5_9 21 dX5_closest_18 rfl t_a0 (ldA_spec g_b4).1 ?_
      refine vv_iconst 22 (v := 0) dX5_closest_21 rfl (by decide) ?_
      obtain ⟨r5, g_r5, hf⟩ := bind_s hf
      refine vv_iald 23 dX5_closest_22 rfl t_b4 g_r5 ?_
      refine vv_goto 27 dX5_closest_23 (by decide) ?_
      obtain rfl := Option.some.inj hf
      exact vv_iret dX5_closest_27 rfl
  · rw [if_neg c2] at hf
    refine vv_iload_n 29 dX5_closest_28 rfl rfl ?_
    refine vv_aload_n 30 dX5_closest_29 rfl rfl ?_
    refine gf_RX5_19 33 dX5_closest_30 rfl t_a0 ?_
    refine vv_icmp_eq 57 36 dX5_closest_33 rfl (by decide) (fun c6 => ?_) (fun c6 => ?_)
    · rw [if_pos c6] at hf
      exact VV.lle (v_X5_closest_57 t_a0 hf) (lle_s (lle_n (lle_s lle_nil)))
    · rw [if_neg c6] at hf
      refine vv_iload_n 37 dX5_closest_36 rfl rfl ?_
      refine vv_aload_n 38 dX5_closest_37 rfl rfl ?_
      obtain ⟨b7, g_b7, hf⟩ := bind_s hf
      have t_b7 := (ldA_spec g_b7).2
      refine gf_RX5_9 41 dX5_closest_38 rfl t_a0 (ldA_spec g_b7).1 ?_
      refine vv_iload_n 42 dX5_closest_41 rfl rfl ?_
      refine vv_iconst 43 (v := 1) dX5_closest_42 rfl (by decide) ?_
      refine vv_isub 44 dX5_closest_43 rfl ?_
      obtain ⟨r8, g_r8, hf⟩ := bind_s hf
      refine vv_iald 45 dX5_closest_44 rfl t_b7 g_r8 ?_
      refine vv_isub 46 dX5_closest_45 rfl ?_
      refine vv_aload_n 47 dX5_closest_46 rfl rfl ?_
      obtain ⟨b9, g_b9, hf⟩ := bind_s hf
      have t_b9 := (ldA_spec g_b9).2
      refine gf_RX5_9 50 dX5_closest_47 rfl t_a0 (ldA_spec g_b9).1 ?_
      refine vv_iload_n 51 dX5_closest_50 rfl rfl ?_
      obtain ⟨r10, g_r10, hf⟩ := bind_s hf
      refine vv_iald 52 dX5_closest_51 rfl t_b9 g_r10 ?_
      refine vv_iload_n 53 dX5_closest_52 rfl rfl ?_
      refine vv_isub 54 dX5_closest_53 rfl ?_
      refine vv_icmp_gt 66 57 dX5_closest_54 rfl (by decide) (fun c11 => ?_) (fun c11 => ?_)
      · rw [if_pos c11] at hf
        refine vv_aload_n 67 dX5_closest_66 rfl rfl ?_
        obtain ⟨b12, g_b12, hf⟩ := bind_s hf
        have t_b12 := (ldA_spec g_b12).2
        refine gf_RX5_9 70 dX5_closest_67 rfl t_a0 (ldA_spec g_b12).1 ?_
        refine vv_iload_n 71 dX5_closest_70 rfl rfl ?_
        obtain ⟨r13, g_r13, hf⟩ := bind_s hf
        refine vv_iald 72 dX5_closest_71 rfl t_b12 g_r13 ?_
        obtain rfl := Option.some.inj hf
        exact vv_iret dX5_closest_72 rfl
      · rw [if_neg c11] at hf
        exact VV.lle (v_X5_closest_57 t_a0 hf) (lle_s (lle_n (lle_s lle_nil)))

theorem c_X5_closest {w : Wo} {K : Kn} {a0 : Nat} {x1 : Int32} {q : Int32} {m : Mem} (t_a0 : K a0 = some (.inl 4)) (hf : F_X5_closest K m a0 x1 = some q) : MM w K K yX5_closest cX5_closest 3 (some .int) rm_X5_closest [.ref a0, .int x1] m (some (.int q)) m 0 0 :=
  mm_of (ini := false) (n := 1) (plainFor_of_name (by decide)) rfl (fun h => by first | rfl | cases h) (Nat.le_of_ble_eq_true rfl) rfl (v_X5_closest_0 t_a0 hf)

set_option maxHeartbeats 4000000 in
theorem v_X8_nearest_0 {w : Wo} {K : Kn} {a0 : Nat} {x1 : Int32} {x2 : Int32} {q : (Int32 × Mem)} (t_a0 : K a0 = some (.inl 7)) {m : Mem} (hf : f_X8_nearest K a0 x1 x2 m = some q) : VV w RX8 cX8_nearest 3 (some .int) rm_X8_nearest false (QM w K (some (.int q.1)) q.2 0 0) K 0 [some (.ref a0), some (.int x1), some (.int x2)] [] 0 0 m := by
  unfold f_X8_nearest at hf
  refine vv_aload_n 1 dX8_nearest_0 rfl rfl ?_
  refine vv_iload_n 2 dX8_nearest_1 rfl rfl ?_
  obtain ⟨q1, g_q1, hf⟩ := bind_s hf
  refine vv_callV 5 (st := []) (As := [.int x1]) (stk2 := [.int q1]) (cl2 := 0) (sl2 := 0) dX8_nearest_2 rfl lk_RX8_81 w_469 w_0 rfl t_a0 ⟨(Nat.le_of_ble_eq_true rfl), (Nat.le_of_ble_eq_true rfl)⟩ rfl rfl ⟨(Nat.le_of_ble_eq_true rfl), (Nat.le_of_ble_eq_true rfl)⟩ rfl (Nat.le_of_ble_eq_true rfl) rfl rfl rfl rfl (c_X8_isNone t_a0 g_q1) ?_
  refine vv_if_ne 15 8 dX8_nearest_5 rfl (by decide) (fun c2 => ?_) (fun c2 => ?_)
  · rw [if_pos c2] at hf
    refine vv_iload_n 9 dX8_nearest_8 rfl rfl ?_
    obtain ⟨q3, g_q3, hf⟩ := bind_s hf
    refine vv_callS 12 (st := []) (As := [.int x2]) (stk2 := [.int q3]) (cl2 := 0) (sl2 := 0) dX8_nearest_9 rfl lk_RX8_84 w_472 ⟨(Nat.le_of_ble_eq_true rfl), (Nat.le_of_ble_eq_true rfl)⟩ rfl rfl ⟨(Nat.le_of_ble_eq_true rfl), (Nat.le_of_ble_eq_true rfl)⟩ rfl (Nat.le_of_ble_eq_true rfl) rfl rfl rfl rfl (c_X8_isStamp g_q3) ?_
    refine vv_if_ne 18 15 dX8_nearest_12 rfl (by decide) (fun c4 => ?_) (fun c4 => ?_)
    · rw [if_pos c4] at hf
      refine vv_bipush 17 (v := (-2)) dX8_nearest_15 rfl (by decide) ?_
      obtain rfl := Option.some.inj hf
      exact vv_iret dX8_nearest_17 rfl
    · rw [if_neg c4] at hf
      refine vv_aload_n 19 dX8_nearest_18 rfl rfl ?_
      refine vv_iload_n 20 dX8_nearest_19 rfl rfl ?_
      obtain ⟨q5, g_q5, hf⟩ := bind_s hf
      refine vv_callV 23 (st := []) (As := [.int x1]) (stk2 := [.ref q5.1]) (cl2 := 0) (sl2 := 0) dX8_nearest_20 rfl lk_RX8_176 w_694 w_11 rfl t_a0 ⟨(Nat.le_of_ble_eq_true rfl), (Nat.le_of_ble_eq_true rfl)⟩ rfl rfl ⟨(Nat.le_of_ble_eq_true rfl), (Nat.le_of_ble_eq_true rfl)⟩ rfl (Nat.le_of_ble_eq_true rfl) rfl rfl rfl rfl (c_X8_gathered t_a0 g_q5) ?_
      obtain ⟨t_6, hf⟩ := gd_s hf
      refine vv_iload_n 24 dX8_nearest_23 rfl rfl ?_
      obtain ⟨q7, g_q7, hf⟩ := bind_s hf
      refine vv_callV 27 (st := []) (As := [.int x2]) (stk2 := [.int q7]) (cl2 := 0) (sl2 := 0) dX8_nearest_24 rfl lk_RX8_235 w_785 w_786 rfl t_6 ⟨(Nat.le_of_ble_eq_true rfl), (Nat.le_of_ble_eq_true rfl)⟩ rfl rfl ⟨(Nat.le_of_ble_eq_true rfl), (Nat.le_of_ble_eq_true rfl)⟩ rfl (Nat.le_of_ble_eq_true rfl) rfl rfl rfl rfl (c_X5_closest t_6 g_q7) ?_
      obtain rfl := Option.some.inj hf
      exact vv_iret dX8_nearest_27 rfl
  · rw [if_neg c2] at hf
    refine vv_bipush 17 (v := (-2)) dX8_nearest_15 rfl (by decide) ?_
    obtain rfl := Option.some.inj hf
    exact vv_iret dX8_nearest_17 rfl

theorem c_X8_nearest {w : Wo} {K : Kn} {a0 : Nat} {x1 : Int32} {x2 : Int32} {q : (Int32 × Mem)} {m : Mem} (t_a0 : K a0 = some (.inl 7)) (hf : F_X8_nearest K m a0 x1 x2 = some q) : MM w K K yX8_nearest cX8_nearest 3 (some .int) rm_X8_nearest [.ref a0, .int x1, .int x2] m (some (.int q.1)) q.2 0 0 :=
  mm_of (ini := false) (n := 0) (plainFor_of_name (by decide)) rfl (fun h => by first | rfl | cases h) (Nat.le_of_ble_eq_true rfl) rfl (v_X8_nearest_0 t_a0 hf)

set_option maxHeartbeats 4000000 in
theorem v_J9_abs_067f4_0 {w : Wo} {K : Kn} {x0 : Int64} {q : Int64} {m : Mem} (hf : f_J9_abs_067f4 x0 = some q) : VV w RJ9 cJ9_abs_067f4 2 (some .long) rm_J9_abs_067f4 false (QM w K (some (.long q)) m 0 0) K 0 [some (.long x0), none] [] 0 0 m := by
  unfold f_J9_abs_067f4 at hf
  refine vv_lload_n 1 dJ9_abs_067f4_0 rfl rfl ?_
  refine vv_lconst 2 (v := 0) dJ9_abs_067f4_1 rfl (by decide) ?_
  refine vv_lcmp 3 dJ9_abs_067f4_2 rfl ?_
  refine vv_if_ge 11 6 dJ9_abs_067f4_3 rfl (by decide) (fun c1 => ?_) (fun c1 => ?_)
  · rw [if_pos c1] at hf
    refine vv_lload_n 12 dJ9_abs_067f4_11 rfl rfl ?_
    obtain rfl := Option.some.inj hf
    exact vv_lret dJ9_abs_067f4_12 rfl
  · rw [if_neg c1] at hf
    refine vv_lload_n 7 dJ9_abs_067f4_6 rfl rfl ?_
    refine vv_lneg 8 dJ9_abs_067f4_7 rfl ?_
    refine vv_goto 12 dJ9_abs_067f4_8 (by decide) ?_
    obtain rfl := Option.some.inj hf
    exact vv_lret dJ9_abs_067f4_12 rfl

theorem c_J9_abs_067f4 {w : Wo} {K : Kn} {x0 : Int64} {q : Int64} {m : Mem} (hf : F_J9_abs_067f4 x0 = some q) : MM w K K yJ9_abs_067f4 cJ9_abs_067f4 2 (some .long) rm_J9_abs_067f4 [.long x0] m (some (.long q)) m 0 0 :=
  mm_of (ini := false) (n := 0) (by decide +kernel) rfl (fun h => by first | rfl | cases h) (Nat.le_of_ble_eq_true rfl) rfl (v_J9_abs_067f4_0 hf)

set_option maxHeartbeats 4000000 in
theorem v_X8_point_0 {w : Wo} {K : Kn} {a0 : Nat} {x1 : Int32} {x2 : Int32} {x3 : Int32} {q : (Int64 × Mem)} (t_a0 : K a0 = some (.inl 7)) {m : Mem} (hf : f_X8_point K a0 x1 x2 x3 m = some q) : VV w RX8 cX8_point 5 (some .long) rm_X8_point false (QM w K (some (.long q.1)) q.2 0 0) K 0 [some (.ref a0), some (.int x1), some (.int x2), some (.int x3), none] [] 0 0 m := by
  unfold f_X8_point at hf
  refine vv_aload_n 1 dX8_point_0 rfl rfl ?_
  refine vv_iload_n 2 dX8_point_1 rfl rfl ?_
  obtain ⟨q1, g_q1, hf⟩ := bind_s hf
  refine vv_callV 5 (st := []) (As := [.int x1]) (stk2 := [.int q1]) (cl2 := 0) (sl2 := 0) dX8_point_2 rfl lk_RX8_81 w_469 w_0 rfl t_a0 ⟨(Nat.le_of_ble_eq_true rfl), (Nat.le_of_ble_eq_true rfl)⟩ rfl rfl ⟨(Nat.le_of_ble_eq_true rfl), (Nat.le_of_ble_eq_true rfl)⟩ rfl (Nat.le_of_ble_eq_true rfl) rfl rfl rfl rfl (c_X8_isNone t_a0 g_q1) ?_
  refine vv_if_ne 21 8 dX8_point_5 rfl (by decide) (fun c2 => ?_) (fun c2 => ?_)
  · rw [if_pos c2] at hf
    refine vv_iload_n 9 dX8_point_8 rfl rfl ?_
    refine vv_if_lt 21 12 dX8_point_9 rfl (by decide) (fun c3 => ?_) (fun c3 => ?_)
    · rw [if_pos c3] at hf
      refine vv_ldc2 24 (v := (-1)) dX8_point_21 rfl w_792 ?_
      obtain rfl := Option.some.inj hf
      exact vv_lret dX8_point_24 rfl
    · rw [if_neg c3] at hf
      refine vv_iload_n 13 dX8_point_12 rfl rfl ?_
      refine vv_iconst 14 (v := 1) dX8_point_13 rfl (by decide) ?_
      refine vv_icmp_gt 21 17 dX8_point_14 rfl (by decide) (fun c4 => ?_) (fun c4 => ?_)
      · rw [if_pos c4] at hf
        refine vv_ldc2 24 (v := (-1)) dX8_point_21 rfl w_792 ?_
        obtain rfl := Option.some.inj hf
        exact vv_lret dX8_point_24 rfl
      · rw [if_neg c4] at hf
        refine vv_iload_n 18 dX8_point_17 rfl rfl ?_
        refine vv_if_ge 25 21 dX8_point_18 rfl (by decide) (fun c5 => ?_) (fun c5 => ?_)
        · rw [if_pos c5] at hf
          refine vv_aload_n 26 dX8_point_25 rfl rfl ?_
          refine vv_iload_n 27 dX8_point_26 rfl rfl ?_
          obtain ⟨q6, g_q6, hf⟩ := bind_s hf
          refine vv_callV 30 (st := []) (As := [.int x1]) (stk2 := [.ref q6.1]) (cl2 := 0) (sl2 := 0) dX8_point_27 rfl lk_RX8_176 w_694 w_11 rfl t_a0 ⟨(Nat.le_of_ble_eq_true rfl), (Nat.le_of_ble_eq_true rfl)⟩ rfl rfl ⟨(Nat.le_of_ble_eq_true rfl), (Nat.le_of_ble_eq_true rfl)⟩ rfl (Nat.le_of_ble_eq_true rfl) rfl rfl rfl rfl (c_X8_gathered t_a0 g_q6) ?_
          obtain ⟨t_7, hf⟩ := gd_s hf
          refine vv_astore 32 (L' := [some (.ref a0), some (.int x1), some (.int x2), some (.int x3), some (.ref q6.1)]) dX8_point_30 rfl (Nat.le_of_ble_eq_true rfl) rfl ?_
          refine vv_iload_n 33 dX8_point_32 rfl rfl ?_
          refine vv_aload 35 dX8_point_33 rfl rfl ?_
          refine gf_RX8_102 38 dX8_point_35 rfl t_7 ?_
          refine vv_icmp_lt 45 41 dX8_point_38 rfl (by decide) (fun c8 => ?_) (fun c8 => ?_)
          · rw [if_pos c8] at hf
            refine vv_iload_n 46 dX8_point_45 rfl rfl ?_
            refine vv_if_ne 60 49 dX8_point_46 rfl (by decide) (fun c9 => ?_) (fun c9 => ?_)
            · rw [if_pos c9] at hf
              refine vv_aload 51 dX8_point_49 rfl rfl ?_
              obtain ⟨b10, g_b10, hf⟩ := bind_s hf
              have t_b10 := (ldA_spec g_b10).2
              refine gf_RX8_240 54 dX8_point_51 rfl t_7 (ldA_spec g_b10).1 ?_
              refine vv_iload_n 55 dX8_point_54 rfl rfl ?_
              obtain ⟨r11, g_r11, hf⟩ := bind_s hf
              refine vv_iald 56 dX8_point_55 rfl t_b10 g_r11 ?_
              refine vv_i2l 57 dX8_point_56 rfl ?_
              refine vv_goto 67 dX8_point_57 (by decide) ?_
              obtain rfl := Option.some.inj hf
              exact vv_lret dX8_point_67 rfl
            · rw [if_neg c9] at hf
              refine vv_aload 62 dX8_point_60 rfl rfl ?_
              obtain ⟨b12, g_b12, hf⟩ := bind_s hf
              have t_b12 := (ldA_spec g_b12).2
              refine gf_RX8_232 65 dX8_point_62 rfl t_7 (ldA_spec g_b12).1 ?_
              refine vv_iload_n 66 dX8_point_65 rfl rfl ?_
              obtain ⟨r13, g_r13, hf⟩ := bind_s hf
              refine vv_lald 67 dX8_point_66 rfl t_b12 g_r13 ?_
              obtain rfl := Option.some.inj hf
              exact vv_lret dX8_point_67 rfl
          · rw [if_neg c8] at hf
            refine vv_ldc2 44 (v := (-1)) dX8_point_41 rfl w_792 ?_
            obtain rfl := Option.some.inj hf
            exact vv_lret dX8_point_44 rfl
        · rw [if_neg c5] at hf
          refine vv_ldc2 24 (v := (-1)) dX8_point_21 rfl w_792 ?_
          obtain rfl := Option.some.inj hf
          exact vv_lret dX8_point_24 rfl
  · rw [if_neg c2] at hf
    refine vv_ldc2 24 (v := (-1)) dX8_point_21 rfl w_792 ?_
    obtain rfl := Option.some.inj hf
    exact vv_lret dX8_point_24 rfl

theorem c_X8_point {w : Wo} {K : Kn} {a0 : Nat} {x1 : Int32} {x2 : Int32} {x3 : Int32} {q : (Int64 × Mem)} {m : Mem} (t_a0 : K a0 = some (.inl 7)) (hf : F_X8_point K m a0 x1 x2 x3 = some q) : MM w K K yX8_point cX8_point 5 (some .long) rm_X8_point [.ref a0, .int x1, .int x2, .int x3] m (some (.long q.1)) q.2 0 0 :=
  mm_of (ini := false) (n := 1) (plainFor_of_name (by decide)) rfl (fun h => by first | rfl | cases h) (Nat.le_of_ble_eq_true rfl) rfl (v_X8_point_0 t_a0 hf)

set_option maxHeartbeats 4000000 in
theorem v_X7_opened_32 {w : Wo} {K : Kn} {a0 : Nat} {x1 : Int32} {x2 : Int32} {q : Int32} {m : Mem} (t_a0 : K a0 = some (.inl 6)) (k5 : Int32 → Int32 → Option Int32) (hk5 : ∀ (x3 : Int32) (x4 : Int32), k5 x3 x4 = some q → VV w RX7 cX7_opened 5 (some .int) rm_X7_opened false (QM w K (some (.int q)) m 0 0) K 5 [some (.ref a0), some (.int x1), some (.int x2), some (.int x3), some (.int x4)] [] 0 0 m) {x3 : Int32} {x4 : Int32} (hf : f_X7_opened_32 K m a0 x1 x2 k5 x3 x4 = some q) : VV w RX7 cX7_opened 5 (some .int) rm_X7_opened false (QM w K (some (.int q)) m 0 0) K 32 [some (.ref a0), some (.int x1), some (.int x2), some (.int x3), some (.int x4)] [] 0 0 m := by
  unfold f_X7_opened_32 at hf
  obtain ⟨z1, e_z1, hf⟩ := bd_s hf
  refine vv_iincE (q := 35) (v := z1) (c := 1) (L' := [some (.ref a0), some (.int x1), some (.int x2), some (.int x3), some (.int z1)]) e_z1 dX7_opened_32 rfl rfl (by decide) (Nat.le_of_ble_eq_true rfl) rfl ?_
  refine vv_goto 5 dX7_opened_35 (by decide) ?_
  exact hk5 _ _ hf

set_option maxHeartbeats 4000000 in
theorem v_X7_opened_5B {w : Wo} {K : Kn} {a0 : Nat} {x1 : Int32} {x2 : Int32} {q : Int32} {m : Mem} (t_a0 : K a0 = some (.inl 6)) (k5 : Int32 → Int32 → Option Int32) (hk5 : ∀ (x3 : Int32) (x4 : Int32), k5 x3 x4 = some q → VV w RX7 cX7_opened 5 (some .int) rm_X7_opened false (QM w K (some (.int q)) m 0 0) K 5 [some (.ref a0), some (.int x1), some (.int x2), some (.int x3), some (.int x4)] [] 0 0 m) {x3 : Int32} {x4 : Int32} (hf : f_X7_opened_5B K m a0 x1 x2 k5 x3 x4 = some q) : VV w RX7 cX7_opened 5 (some .int) rm_X7_opened false (QM w K (some (.int q)) m 0 0) K 5 [some (.ref a0), some (.int x1), some (.int x2), some (.int x3), some (.int x4)] [] 0 0 m := by
  unfold f_X7_opened_5B at hf
  refine vv_iload 7 dX7_opened_5 rfl rfl ?_
  refine vv_aload_n 8 dX7_opened_7 rfl rfl ?_
  refine gf_RX7_45 11 dX7_opened_8 rfl t_a0 ?_
  refine vv_icmp_ge 38 14 dX7_opened_11 rfl (by decide) (fun c1 => ?_) (fun c1 => ?_)
  · rw [if_pos c1] at hf
    refine vv_iload_n 39 dX7_opened_38 rfl rfl ?_
    obtain rfl := Option.some.inj hf
    exact vv_iret dX7_opened_39 rfl
  · rw [if_neg c1] at hf
    refine vv_aload_n 15 dX7_opened_14 rfl rfl ?_
    obtain ⟨b2, g_b2, hf⟩ := bind_s hf
    have t_b2 := (ldA_spec g_b2).2
    refine gf_RX7_11 18 dX7_opened_15 rfl t_a0 (ldA_spec g_b2).1 ?_
    refine vv_iload 20 dX7_opened_18 rfl rfl ?_
    obtain ⟨b3, g_b3, hf⟩ := bind_s hf
    have t_b3 := (alO_spec g_b3).2
    refine vv_aald4 21 dX7_opened_20 rfl t_b2 g_b3 ?_
    refine vv_iload_n 22 dX7_opened_21 rfl rfl ?_
    refine vv_iload_n 23 dX7_opened_22 rfl rfl ?_
    obtain ⟨q4, g_q4, hf⟩ := bind_s hf
    refine vv_callV 26 (st := []) (As := [.int x1, .int x2]) (stk2 := [.int q4]) (cl2 := 0) (sl2 := 0) dX7_opened_23 rfl lk_RX7_108 w_702 w_703 rfl t_b3 ⟨(Nat.le_of_ble_eq_true rfl), (Nat.le_of_ble_eq_true rfl)⟩ rfl rfl ⟨(Nat.le_of_ble_eq_true rfl), (Nat.le_of_ble_eq_true rfl)⟩ rfl (Nat.le_of_ble_eq_true rfl) rfl rfl rfl rfl (c_X0_touches t_b3 g_q4) ?_
    refine vv_if_eq 32 29 dX7_opened_26 rfl (by decide) (fun c5 => ?_) (fun c5 => ?_)
    · rw [if_pos c5] at hf
      exact v_X7_opened_32 t_a0 k5 hk5 hf
    · rw [if_neg c5] at hf
      obtain ⟨z6, e_z6, hf⟩ := bd_s hf
      refine vv_iincE (q := 32) (v := z6) (c := 1) (L' := [some (.ref a0), some (.int x1), some (.int x2), some (.int z6), some (.int x4)]) e_z6 dX7_opened_29 rfl rfl (by decide) (Nat.le_of_ble_eq_true rfl) rfl ?_
      exact v_X7_opened_32 t_a0 k5 hk5 hf

theorem v_X7_opened_5 {w : Wo} {K : Kn} {a0 : Nat} {x1 : Int32} {x2 : Int32} {q : Int32} {m : Mem} (t_a0 : K a0 = some (.inl 6)) : ∀ (n : Nat) (x3 : Int32) (x4 : Int32), f_X7_opened_5 K m a0 x1 x2 n x3 x4 = some q → VV w RX7 cX7_opened 5 (some .int) rm_X7_opened false (QM w K (some (.int q)) m 0 0) K 5 [some (.ref a0), some (.int x1), some (.int x2), some (.int x3), some (.int x4)] [] 0 0 m := by
  intro n
  induction n with
  | zero => intro x3 x4 hf; cases hf
  | succ n ih => intro x3 x4 hf; exact v_X7_opened_5B (a0 := a0) (x1 := x1) (x2 := x2) t_a0 (f_X7_opened_5 K m a0 x1 x2 n) ih hf

set_option maxHeartbeats 4000000 in
theorem v_X7_opened_0 {w : Wo} {K : Kn} {a0 : Nat} {x1 : Int32} {x2 : Int32} {q : Int32} {m : Mem} (t_a0 : K a0 = some (.inl 6)) (hf : f_X7_opened K m a0 x1 x2 = some q) : VV w RX7 cX7_opened 5 (some .int) rm_X7_opened false (QM w K (some (.int q)) m 0 0) K 0 [some (.ref a0), some (.int x1), some (.int x2), none, none] [] 0 0 m := by
  unfold f_X7_opened at hf
  refine vv_iconst 1 (v := 0) dX7_opened_0 rfl (by decide) ?_
  refine vv_istore_n 2 (L' := [some (.ref a0), some (.int x1), some (.int x2), some (.int (0 : Int32)), none]) dX7_opened_1 rfl (Nat.le_of_ble_eq_true rfl) rfl ?_
  refine vv_iconst 3 (v := 0) dX7_opened_2 rfl (by decide) ?_
  refine vv_istore 5 (L' := [some (.ref a0), some (.int x1), some (.int x2), some (.int (0 : Int32)), some (.int (0 : Int32))]) dX7_opened_3 rfl (Nat.le_of_ble_eq_true rfl) rfl ?_
  exact v_X7_opened_5 t_a0 FU _ _ hf

theorem c_X7_opened {w : Wo} {K : Kn} {a0 : Nat} {x1 : Int32} {x2 : Int32} {q : Int32} {m : Mem} (t_a0 : K a0 = some (.inl 6)) (hf : F_X7_opened K m a0 x1 x2 = some q) : MM w K K yX7_opened cX7_opened 5 (some .int) rm_X7_opened [.ref a0, .int x1, .int x2] m (some (.int q)) m 0 0 :=
  mm_of (ini := false) (n := 2) (plainFor_of_name (by decide)) rfl (fun h => by first | rfl | cases h) (Nat.le_of_ble_eq_true rfl) rfl (v_X7_opened_0 t_a0 hf)

set_option maxHeartbeats 4000000 in
theorem v_X5_lastStamp_0 {w : Wo} {K : Kn} {a0 : Nat} {q : Int32} {m : Mem} (t_a0 : K a0 = some (.inl 4)) (hf : f_X5_lastStamp K m a0 = some q) : VV w RX5 cX5_lastStamp 1 (some .int) rm_X5_lastStamp false (QM w K (some (.int q)) m 0 0) K 0 [some (.ref a0)] [] 0 0 m := by
  unfold f_X5_lastStamp at hf
  refine vv_aload_n 1 dX5_lastStamp_0 rfl rfl ?_
  refine gf_RX5_19 4 dX5_lastStamp_1 rfl t_a0 ?_
  refine vv_if_le 21 7 dX5_lastStamp_4 rfl (by decide) (fun c1 => ?_) (fun c1 => ?_)
  · rw [if_pos c1] at hf
    refine vv_iconst 22 (v := (-1)) dX5_lastStamp_21 rfl (by decide) ?_
    obtain rfl := Option.some.inj hf
    exact vv_iret dX5_lastStamp_22 rfl
  · rw [if_neg c1] at hf
    refine vv_aload_n 8 dX5_lastStamp_7 rfl rfl ?_
    obtain ⟨b2, g_b2, hf⟩ := bind_s hf
    have t_b2 := (ldA_spec g_b2).2
    refine gf_RX5_9 11 dX5_lastStamp_8 rfl t_a0 (ldA_spec g_b2).1 ?_
    refine vv_aload_n 12 dX5_lastStamp_11 rfl rfl ?_
    refine gf_RX5_19 15 dX5_lastStamp_12 rfl t_a0 ?_
    refine vv_iconst 16 (v := 1) dX5_lastStamp_15 rfl (by decide) ?_
    refine vv_isub 17 dX5_lastStamp_16 rfl ?_
    obtain ⟨r3, g_r3, hf⟩ := bind_s hf
    refine vv_iald 18 dX5_lastStamp_17 rfl t_b2 g_r3 ?_
    refine vv_goto 22 dX5_lastStamp_18 (by decide) ?_
    obtain rfl := Option.some.inj hf
    exact vv_iret dX5_lastStamp_22 rfl

theorem c_X5_lastStamp {w : Wo} {K : Kn} {a0 : Nat} {q : Int32} {m : Mem} (t_a0 : K a0 = some (.inl 4)) (hf : F_X5_lastStamp K m a0 = some q) : MM w K K yX5_lastStamp cX5_lastStamp 1 (some .int) rm_X5_lastStamp [.ref a0] m (some (.int q)) m 0 0 :=
  mm_of (ini := false) (n := 0) (plainFor_of_name (by decide)) rfl (fun h => by first | rfl | cases h) (Nat.le_of_ble_eq_true rfl) rfl (v_X5_lastStamp_0 t_a0 hf)

set_option maxHeartbeats 4000000 in
theorem v_X3_isNumber_0 {w : Wo} {K : Kn} {x0 : Int64} {q : Int32} {m : Mem} (hf : f_X3_isNumber x0 = some q) : VV w RX3 cX3_isNumber 2 (some .boolean) rm_X3_isNumber false (QM w K (some (.int q)) m 0 0) K 0 [some (.long x0), none] [] 0 0 m := by
  unfold f_X3_isNumber at hf
  refine vv_lload_n 1 dX3_isNumber_0 rfl rfl ?_
  refine vv_ldc2 4 (v := 9223372036854775807) dX3_isNumber_1 rfl w_836 ?_
  refine vv_land 5 dX3_isNumber_4 rfl ?_
  refine vv_ldc2 8 (v := 9218868437227405312) dX3_isNumber_5 rfl w_837 ?_
  refine vv_lcmp 9 dX3_isNumber_8 rfl ?_
  refine vv_if_gt 16 12 dX3_isNumber_9 rfl (by decide) (fun c1 => ?_) (fun c1 => ?_)
  · rw [if_pos c1] at hf
    refine vv_iconst 17 (v := 0) dX3_isNumber_16 rfl (by decide) ?_
    obtain rfl := Option.some.inj hf
    exact vv_zret dX3_isNumber_17 rfl (Or.inl rfl)
  · rw [if_neg c1] at hf
    refine vv_iconst 13 (v := 1) dX3_isNumber_12 rfl (by decide) ?_
    refine vv_goto 17 dX3_isNumber_13 (by decide) ?_
    obtain rfl := Option.some.inj hf
    exact vv_zret dX3_isNumber_17 rfl (Or.inr rfl)

theorem c_X3_isNumber {w : Wo} {K : Kn} {x0 : Int64} {q : Int32} {m : Mem} (hf : F_X3_isNumber x0 = some q) : MM w K K yX3_isNumber cX3_isNumber 2 (some .boolean) rm_X3_isNumber [.long x0] m (some (.int q)) m 0 0 :=
  mm_of (ini := false) (n := 0) (plainFor_of_name (by decide)) rfl (fun h => by first | rfl | cases h) (Nat.le_of_ble_eq_true rfl) rfl (v_X3_isNumber_0 hf)

set_option maxHeartbeats 4000000 in
theorem v_X3_isInfinite_0 {w : Wo} {K : Kn} {x0 : Int64} {q : Int32} {m : Mem} (hf : f_X3_isInfinite x0 = some q) : VV w RX3 cX3_isInfinite 2 (some .boolean) rm_X3_isInfinite false (QM w K (some (.int q)) m 0 0) K 0 [some (.long x0), none] [] 0 0 m := by
  unfold f_X3_isInfinite at hf
  refine vv_lload_n 1 dX3_isInfinite_0 rfl rfl ?_
  refine vv_ldc2 4 (v := 9223372036854775807) dX3_isInfinite_1 rfl w_836 ?_
  refine vv_land 5 dX3_isInfinite_4 rfl ?_
  refine vv_ldc2 8 (v := 9218868437227405312) dX3_isInfinite_5 rfl w_837 ?_
  refine vv_lcmp 9 dX3_isInfinite_8 rfl ?_
  refine vv_if_ne 16 12 dX3_isInfinite_9 rfl (by decide) (fun c1 => ?_) (fun c1 => ?_)
  · rw [if_pos c1] at hf
    refine vv_iconst 13 (v := 1) dX3_isInfinite_12 rfl (by decide) ?_
    refine vv_goto 17 dX3_isInfinite_13 (by decide) ?_
    obtain rfl := Option.some.inj hf
    exact vv_zret dX3_isInfinite_17 rfl (Or.inr rfl)
  · rw [if_neg c1] at hf
    refine vv_iconst 17 (v := 0) dX3_isInfinite_16 rfl (by decide) ?_
    obtain rfl := Option.some.inj hf
    exact vv_zret dX3_isInfinite_17 rfl (Or.inl rfl)

theorem c_X3_isInfinite {w : Wo} {K : Kn} {x0 : Int64} {q : Int32} {m : Mem} (hf : F_X3_isInfinite x0 = some q) : MM w K K yX3_isInfinite cX3_isInfinite 2 (some .boolean) rm_X3_isInfinite [.long x0] m (some (.int q)) m 0 0 :=
  mm_of (ini := false) (n := 0) (plainFor_of_name (by decide)) rfl (fun h => by first | rfl | cases h) (Nat.le_of_ble_eq_true rfl) rfl (v_X3_isInfinite_0 hf)

set_option maxHeartbeats 4000000 in
theorem v_X5_countKind_82 {w : Wo} {K : Kn} {a0 : Nat} {x1 : Int32} {q : Int32} {m : Mem} (t_a0 : K a0 = some (.inl 4)) (k4 : Int32 → Int32 → Option Int32) (hk4 : ∀ (x2 : Int32) (x3 : Int32), k4 x2 x3 = some q → VV w RX5 cX5_countKind 5 (some .int) rm_X5_countKind false (QM w K (some (.int q)) m 0 0) K 4 [some (.ref a0), some (.int x1), some (.int x2), some (.int x3), none] [] 0 0 m) {x2 : Int32} {x3 : Int32} (hf : f_X5_countKind_82 K m a0 x1 k4 x2 x3 = some q) : VV w RX5 cX5_countKind 5 (some .int) rm_X5_countKind false (QM w K (some (.int q)) m 0 0) K 82 [some (.ref a0), some (.int x1), some (.int x2), some (.int x3), none] [] 0 0 m := by
  unfold f_X5_countKind_82 at hf
  obtain ⟨z1, e_z1, hf⟩ := bd_s hf
  refine vv_iincE (q := 85) (v := z1) (c := 1) (L' := [some (.ref a0), some (.int x1), some (.int x2), some (.int z1), none]) e_z1 dX5_countKind_82 rfl rfl (by decide) (Nat.le_of_ble_eq_true rfl) rfl ?_
  refine vv_goto 4 dX5_countKind_85 (by decide) ?_
  exact hk4 _ _ hf

set_option maxHeartbeats 4000000 in
theorem v_X5_countKind_72 {w : Wo} {K : Kn} {a0 : Nat} {x1 : Int32} {q : Int32} {m : Mem} (t_a0 : K a0 = some (.inl 4)) (k4 : Int32 → Int32 → Option Int32) (hk4 : ∀ (x2 : Int32) (x3 : Int32), k4 x2 x3 = some q → VV w RX5 cX5_countKind 5 (some .int) rm_X5_countKind false (QM w K (some (.int q)) m 0 0) K 4 [some (.ref a0), some (.int x1), some (.int x2), some (.int x3), none] [] 0 0 m) {x2 : Int32} {x3 : Int32} {s0 : Int32} (hf : f_X5_countKind_72 K m a0 x1 k4 x2 x3 s0 = some q) : VV w RX5 cX5_countKind 5 (some .int) rm_X5_countKind false (QM w K (some (.int q)) m 0 0) K 72 [some (.ref a0), some (.int x1), some (.int x2), some (.int x3), none] [.int s0] 0 0 m := by
  unfold f_X5_countKind_72 at hf
  refine vv_istore 74 (L' := [some (.ref a0), some (.int x1), some (.int x2), some (.int x3), some (.int s0)]) dX5_countKind_72 rfl (Nat.le_of_ble_eq_true rfl) rfl ?_
  refine vv_iload 76 dX5_countKind_74 rfl rfl ?_
  refine vv_if_eq 82 79 dX5_countKind_76 rfl (by decide) (fun c1 => ?_) (fun c1 => ?_)
  · rw [if_pos c1] at hf
    exact VV.lle (v_X5_countKind_82 t_a0 k4 hk4 hf) (lle_s (lle_s (lle_s (lle_s (lle_n lle_nil)))))
  · rw [if_neg c1] at hf
    obtain ⟨z2, e_z2, hf⟩ := bd_s hf
    refine vv_iincE (q := 82) (v := z2) (c := 1) (L' := [some (.ref a0), some (.int x1), some (.int z2), some (.int x3), some (.int s0)]) e_z2 dX5_countKind_79 rfl rfl (by decide) (Nat.le_of_ble_eq_true rfl) rfl ?_
    exact VV.lle (v_X5_countKind_82 t_a0 k4 hk4 hf) (lle_s (lle_s (lle_s (lle_s (lle_n lle_nil)))))

set_option maxHeartbeats 4000000 in
theorem v_X5_countKind_4B {w : Wo} {K : Kn} {a0 : Nat} {x1 : Int32} {q : Int32} {m : Mem} (t_a0 : K a0 = some (.inl 4)) (k4 : Int32 → Int32 → Option Int32) (hk4 : ∀ (x2 : Int32) (x3 : Int32), k4 x2 x3 = some q → VV w RX5 cX5_countKind 5 (some .int) rm_X5_countKind false (QM w K (some (.int q)) m 0 0) K 4 [some (.ref a0), some (.int x1), some (.int x2), some (.int x3), none] [] 0 0 m) {x2 : Int32} {x3 : Int32} (hf : f_X5_countKind_4B K m a0 x1 k4 x2 x3 = some q) : VV w RX5 cX5_countKind 5 (some .int) rm_X5_countKind false (QM w K (some (.int q)) m 0 0) K 4 [some (.ref a0), some (.int x1), some (.int x2), some (.int x3), none] [] 0 0 m := by
  unfold f_X5_countKind_4B at hf
  refine vv_iload_n 5 dX5_countKind_4 rfl rfl ?_
  refine vv_aload_n 6 dX5_countKind_5 rfl rfl ?_
  refine gf_RX5_19 9 dX5_countKind_6 rfl t_a0 ?_
  refine vv_icmp_ge 88 12 dX5_countKind_9 rfl (by decide) (fun c1 => ?_) (fun c1 => ?_)
  · rw [if_pos c1] at hf
    refine vv_iload_n 89 dX5_countKind_88 rfl rfl ?_
    obtain rfl := Option.some.inj hf
    exact vv_iret dX5_countKind_89 rfl
  · rw [if_neg c1] at hf
    refine vv_iload_n 13 dX5_countKind_12 rfl rfl ?_
    refine vv_iconst 14 (v := 4) dX5_countKind_13 rfl (by decide) ?_
    refine vv_icmp_ne 37 17 dX5_countKind_14 rfl (by decide) (fun c2 => ?_) (fun c2 => ?_)
    · rw [if_pos c2] at hf
      refine vv_aload_n 18 dX5_countKind_17 rfl rfl ?_
      obtain ⟨b3, g_b3, hf⟩ := bind_s hf
      have t_b3 := (ldA_spec g_b3).2
      refine gf_RX5_15 21 dX5_countKind_18 rfl t_a0 (ldA_spec g_b3).1 ?_
      refine vv_iload_n 22 dX5_countKind_21 rfl rfl ?_
      obtain ⟨r4, g_r4, hf⟩ := bind_s hf
      refine vv_lald 23 dX5_countKind_22 rfl t_b3 g_r4 ?_
      obtain ⟨q5, g_q5, hf⟩ := bind_s hf
      refine vv_callS 26 (st := []) (As := [.long r4]) (stk2 := [.int q5]) (cl2 := 0) (sl2 := 0) dX5_countKind_23 rfl lk_RX5_37 w_834 ⟨(Nat.le_of_ble_eq_true rfl), (Nat.le_of_ble_eq_true rfl)⟩ rfl rfl ⟨(Nat.le_of_ble_eq_true rfl), (Nat.le_of_ble_eq_true rfl)⟩ rfl (Nat.le_of_ble_eq_true rfl) rfl rfl rfl rfl (c_X3_isNumber g_q5) ?_
      refine vv_if_ne 33 29 dX5_countKind_26 rfl (by decide) (fun c6 => ?_) (fun c6 => ?_)
      · rw [if_pos c6] at hf
        refine vv_iconst 30 (v := 1) dX5_countKind_29 rfl (by decide) ?_
        refine vv_goto 72 dX5_countKind_30 (by decide) ?_
        exact v_X5_countKind_72 t_a0 k4 hk4 hf
      · rw [if_neg c6] at hf
        refine vv_iconst 34 (v := 0) dX5_countKind_33 rfl (by decide) ?_
        refine vv_goto 72 dX5_countKind_34 (by decide) ?_
        exact v_X5_countKind_72 t_a0 k4 hk4 hf
    · rw [if_neg c2] at hf
      refine vv_iload_n 38 dX5_countKind_37 rfl rfl ?_
      refine vv_iconst 39 (v := 5) dX5_countKind_38 rfl (by decide) ?_
      refine vv_icmp_ne 63 42 dX5_countKind_39 rfl (by decide) (fun c7 => ?_) (fun c7 => ?_)
      · rw [if_pos c7] at hf
        refine vv_aload_n 43 dX5_countKind_42 rfl rfl ?_
        obtain ⟨b8, g_b8, hf⟩ := bind_s hf
        have t_b8 := (ldA_spec g_b8).2
        refine gf_RX5_15 46 dX5_countKind_43 rfl t_a0 (ldA_spec g_b8).1 ?_
        refine vv_iload_n 47 dX5_countKind_46 rfl rfl ?_
        obtain ⟨r9, g_r9, hf⟩ := bind_s hf
        refine vv_lald 48 dX5_countKind_47 rfl t_b8 g_r9 ?_
        refine vv_ldc2 51 (v := (-9223372036854775808)) dX5_countKind_48 rfl w_862 ?_
        refine vv_lcmp 52 dX5_countKind_51 rfl ?_
        refine vv_if_ne 59 55 dX5_countKind_52 rfl (by decide) (fun c10 => ?_) (fun c10 => ?_)
        · rw [if_pos c10] at hf
          refine vv_iconst 56 (v := 1) dX5_countKind_55 rfl (by decide) ?_
          refine vv_goto 72 dX5_countKind_56 (by decide) ?_
          exact v_X5_countKind_72 t_a0 k4 hk4 hf
        · rw [if_neg c10] at hf
          refine vv_iconst 60 (v := 0) dX5_countKind_59 rfl (by decide) ?_
          refine vv_goto 72 dX5_countKind_60 (by decide) ?_
          exact v_X5_countKind_72 t_a0 k4 hk4 hf
      · rw [if_neg c7] at hf
        refine vv_aload_n 64 dX5_countKind_63 rfl rfl ?_
        obtain ⟨b11, g_b11, hf⟩ := bind_s hf
        have t_b11 := (ldA_spec g_b11).2
        refine gf_RX5_15 67 dX5_countKind_64 rfl t_a0 (ldA_spec g_b11).1 ?_
        refine vv_iload_n 68 dX5_countKind_67 rfl rfl ?_
        obtain ⟨r12, g_r12, hf⟩ := bind_s hf
        refine vv_lald 69 dX5_countKind_68 rfl t_b11 g_r12 ?_
        obtain ⟨q13, g_q13, hf⟩ := bind_s hf
        refine vv_callS 72 (st := []) (As := [.long r12]) (stk2 := [.int q13]) (cl2 := 0) (sl2 := 0) dX5_countKind_69 rfl lk_RX5_49 w_864 ⟨(Nat.le_of_ble_eq_true rfl), (Nat.le_of_ble_eq_true rfl)⟩ rfl rfl ⟨(Nat.le_of_ble_eq_true rfl), (Nat.le_of_ble_eq_true rfl)⟩ rfl (Nat.le_of_ble_eq_true rfl) rfl rfl rfl rfl (c_X3_isInfinite g_q13) ?_
        exact v_X5_countKind_72 t_a0 k4 hk4 hf

theorem v_X5_countKind_4 {w : Wo} {K : Kn} {a0 : Nat} {x1 : Int32} {q : Int32} {m : Mem} (t_a0 : K a0 = some (.inl 4)) : ∀ (n : Nat) (x2 : Int32) (x3 : Int32), f_X5_countKind_4 K m a0 x1 n x2 x3 = some q → VV w RX5 cX5_countKind 5 (some .int) rm_X5_countKind false (QM w K (some (.int q)) m 0 0) K 4 [some (.ref a0), some (.int x1), some (.int x2), some (.int x3), none] [] 0 0 m := by
  intro n
  induction n with
  | zero => intro x2 x3 hf; cases hf
  | succ n ih => intro x2 x3 hf; exact v_X5_countKind_4B (a0 := a0) (x1 := x1) t_a0 (f_X5_countKind_4 K m a0 x1 n) ih hf

set_option maxHeartbeats 4000000 in
theorem v_X5_countKind_0 {w : Wo} {K : Kn} {a0 : Nat} {x1 : Int32} {q : Int32} {m : Mem} (t_a0 : K a0 = some (.inl 4)) (hf : f_X5_countKind K m a0 x1 = some q) : VV w RX5 cX5_countKind 5 (some .int) rm_X5_countKind false (QM w K (some (.int q)) m 0 0) K 0 [some (.ref a0), some (.int x1), none, none, none] [] 0 0 m := by
  unfold f_X5_countKind at hf
  refine vv_iconst 1 (v := 0) dX5_countKind_0 rfl (by decide) ?_
  refine vv_istore_n 2 (L' := [some (.ref a0), some (.int x1), some (.int (0 : Int32)), none, none]) dX5_countKind_1 rfl (Nat.le_of_ble_eq_true rfl) rfl ?_
  refine vv_iconst 3 (v := 0) dX5_countKind_2 rfl (by decide) ?_
  refine vv_istore_n 4 (L' := [some (.ref a0), some (.int x1), some (.int (0 : Int32)), some (.int (0 : Int32)), none]) dX5_countKind_3 rfl (Nat.le_of_ble_eq_true rfl) rfl ?_
  exact v_X5_countKind_4 t_a0 FU _ _ hf

theorem c_X5_countKind {w : Wo} {K : Kn} {a0 : Nat} {x1 : Int32} {q : Int32} {m : Mem} (t_a0 : K a0 = some (.inl 4)) (hf : F_X5_countKind K m a0 x1 = some q) : MM w K K yX5_countKind cX5_countKind 5 (some .int) rm_X5_countKind [.ref a0, .int x1] m (some (.int q)) m 0 0 :=
  mm_of (ini := false) (n := 3) (plainFor_of_name (by decide)) rfl (fun h => by first | rfl | cases h) (Nat.le_of_ble_eq_true rfl) rfl (v_X5_countKind_0 t_a0 hf)

set_option maxHeartbeats 4000000 in
theorem v_X8_span_136 {w : Wo} {K : Kn} {a0 : Nat} {x1 : Int32} {x2 : Int32} {x3 : Int32} {x4 : Int32} {q : (Int32 × Mem)} (t_a0 : K a0 = some (.inl 7)) {m : Mem} (hf : f_X8_span_136 K a0 x1 x2 x3 x4 m = some q) : VV w RX8 cX8_span 5 (some .int) rm_X8_span false (QM w K (some (.int q.1)) q.2 0 0) K 136 [some (.ref a0), none, none, none, some (.int x4)] [] 0 0 m := by
  unfold f_X8_span_136 at hf
  refine vv_aload_n 137 dX8_span_136 rfl rfl ?_
  obtain ⟨b1, g_b1, hf⟩ := bind_s hf
  have t_b1 := (ldO_spec g_b1).2
  refine gf_RX8_25 140 dX8_span_137 rfl t_a0 (ldO_spec g_b1).1 ?_
  refine vv_iload 142 dX8_span_140 rfl rfl ?_
  obtain ⟨q2, g_q2, hf⟩ := bind_s hf
  refine vv_callV 145 (st := []) (As := [.int x4]) (stk2 := [.int q2]) (cl2 := 0) (sl2 := 0) dX8_span_142 rfl lk_RX8_277 w_859 w_860 rfl t_b1 ⟨(Nat.le_of_ble_eq_true rfl), (Nat.le_of_ble_eq_true rfl)⟩ rfl rfl ⟨(Nat.le_of_ble_eq_true rfl), (Nat.le_of_ble_eq_true rfl)⟩ rfl (Nat.le_of_ble_eq_true rfl) rfl rfl rfl rfl (c_X5_countKind t_b1 g_q2) ?_
  obtain rfl := Option.some.inj hf
  exact vv_iret dX8_span_145 rfl

set_option maxHeartbeats 4000000 in
theorem v_X8_span_96 {w : Wo} {K : Kn} {a0 : Nat} {x1 : Int32} {x2 : Int32} {x3 : Int32} {x4 : Int32} {q : (Int32 × Mem)} (t_a0 : K a0 = some (.inl 7)) {m : Mem} (hf : f_X8_span_96 K a0 x1 x2 x3 x4 m = some q) : VV w RX8 cX8_span 5 (some .int) rm_X8_span false (QM w K (some (.int q.1)) q.2 0 0) K 96 [some (.ref a0), none, none, none, none] [] 0 0 m := by
  unfold f_X8_span_96 at hf
  refine vv_aload_n 97 dX8_span_96 rfl rfl ?_
  obtain ⟨b1, g_b1, hf⟩ := bind_s hf
  have t_b1 := (ldO_spec g_b1).2
  refine gf_RX8_25 100 dX8_span_97 rfl t_a0 (ldO_spec g_b1).1 ?_
  refine gf_RX8_102 103 dX8_span_100 rfl t_b1 ?_
  obtain rfl := Option.some.inj hf
  exact vv_iret dX8_span_103 rfl

set_option maxHeartbeats 4000000 in
theorem v_X8_span_104 {w : Wo} {K : Kn} {a0 : Nat} {x1 : Int32} {x2 : Int32} {x3 : Int32} {x4 : Int32} {q : (Int32 × Mem)} (t_a0 : K a0 = some (.inl 7)) {m : Mem} (hf : f_X8_span_104 K a0 x1 x2 x3 x4 m = some q) : VV w RX8 cX8_span 5 (some .int) rm_X8_span false (QM w K (some (.int q.1)) q.2 0 0) K 104 [some (.ref a0), none, none, none, none] [] 0 0 m := by
  unfold f_X8_span_104 at hf
  refine vv_aload_n 105 dX8_span_104 rfl rfl ?_
  obtain ⟨b1, g_b1, hf⟩ := bind_s hf
  have t_b1 := (ldO_spec g_b1).2
  refine gf_RX8_25 108 dX8_span_105 rfl t_a0 (ldO_spec g_b1).1 ?_
  refine gf_RX8_102 111 dX8_span_108 rfl t_b1 ?_
  refine vv_if_le 126 114 dX8_span_111 rfl (by decide) (fun c2 => ?_) (fun c2 => ?_)
  · rw [if_pos c2] at hf
    refine vv_iconst 127 (v := (-1)) dX8_span_126 rfl (by decide) ?_
    obtain rfl := Option.some.inj hf
    exact vv_iret dX8_span_127 rfl
  · rw [if_neg c2] at hf
    refine vv_aload_n 115 dX8_span_114 rfl rfl ?_
    obtain ⟨b3, g_b3, hf⟩ := bind_s hf
    have t_b3 := (ldO_spec g_b3).2
    refine gf_RX8_25 118 dX8_span_115 rfl t_a0 (ldO_spec g_b3).1 ?_
    obtain ⟨b4, g_b4, hf⟩ := bind_s hf
    have t_b4 := (ldA_spec g_b4).2
    refine gf_RX8_240 121 dX8_span_118 rfl t_b3 (ldA_spec g_b4).1 ?_
    refine vv_iconst 122 (v := 0) dX8_span_121 rfl (by decide) ?_
    obtain ⟨r5, g_r5, hf⟩ := bind_s hf
    refine vv_iald 123 dX8_span_122 rfl t_b4 g_r5 ?_
    refine vv_goto 127 dX8_span_123 (by decide) ?_
    obtain rfl := Option.some.inj hf
    exact vv_iret dX8_span_127 rfl

set_option maxHeartbeats 4000000 in
theorem v_X8_span_128 {w : Wo} {K : Kn} {a0 : Nat} {x1 : Int32} {x2 : Int32} {x3 : Int32} {x4 : Int32} {q : (Int32 × Mem)} (t_a0 : K a0 = some (.inl 7)) {m : Mem} (hf : f_X8_span_128 K a0 x1 x2 x3 x4 m = some q) : VV w RX8 cX8_span 5 (some .int) rm_X8_span false (QM w K (some (.int q.1)) q.2 0 0) K 128 [some (.ref a0), none, none, none, none] [] 0 0 m := by
  unfold f_X8_span_128 at hf
  refine vv_aload_n 129 dX8_span_128 rfl rfl ?_
  obtain ⟨b1, g_b1, hf⟩ := bind_s hf
  have t_b1 := (ldO_spec g_b1).2
  refine gf_RX8_25 132 dX8_span_129 rfl t_a0 (ldO_spec g_b1).1 ?_
  obtain ⟨q2, g_q2, hf⟩ := bind_s hf
  refine vv_callV 135 (st := []) (As := []) (stk2 := [.int q2]) (cl2 := 0) (sl2 := 0) dX8_span_132 rfl lk_RX8_250 w_807 w_808 rfl t_b1 ⟨(Nat.le_of_ble_eq_true rfl), (Nat.le_of_ble_eq_true rfl)⟩ rfl rfl ⟨(Nat.le_of_ble_eq_true rfl), (Nat.le_of_ble_eq_true rfl)⟩ rfl (Nat.le_of_ble_eq_true rfl) rfl rfl rfl rfl (c_X5_lastStamp t_b1 g_q2) ?_
  obtain rfl := Option.some.inj hf
  exact vv_iret dX8_span_135 rfl

set_option maxHeartbeats 4000000 in
theorem v_X8_span_0 {w : Wo} {K : Kn} {a0 : Nat} {x1 : Int32} {x2 : Int32} {x3 : Int32} {x4 : Int32} {q : (Int32 × Mem)} (t_a0 : K a0 = some (.inl 7)) {m : Mem} (hf : f_X8_span K a0 x1 x2 x3 x4 m = some q) : VV w RX8 cX8_span 5 (some .int) rm_X8_span false (QM w K (some (.int q.1)) q.2 0 0) K 0 [some (.ref a0), some (.int x1), some (.int x2), some (.int x3), some (.int x4)] [] 0 0 m := by
  unfold f_X8_span at hf
  refine vv_aload_n 1 dX8_span_0 rfl rfl ?_
  refine vv_iload_n 2 dX8_span_1 rfl rfl ?_
  obtain ⟨q1, g_q1, hf⟩ := bind_s hf
  refine vv_callV 5 (st := []) (As := [.int x1]) (stk2 := [.int q1]) (cl2 := 0) (sl2 := 0) dX8_span_2 rfl lk_RX8_81 w_469 w_0 rfl t_a0 ⟨(Nat.le_of_ble_eq_true rfl), (Nat.le_of_ble_eq_true rfl)⟩ rfl rfl ⟨(Nat.le_of_ble_eq_true rfl), (Nat.le_of_ble_eq_true rfl)⟩ rfl (Nat.le_of_ble_eq_true rfl) rfl rfl rfl rfl (c_X8_isNone t_a0 g_q1) ?_
  refine vv_if_ne 25 8 dX8_span_5 rfl (by decide) (fun c2 => ?_) (fun c2 => ?_)
  · rw [if_pos c2] at hf
    refine vv_iload_n 9 dX8_span_8 rfl rfl ?_
    refine vv_iload_n 10 dX8_span_9 rfl rfl ?_
    refine vv_icmp_gt 25 13 dX8_span_10 rfl (by decide) (fun c3 => ?_) (fun c3 => ?_)
    · rw [if_pos c3] at hf
      refine vv_bipush 27 (v := (-2)) dX8_span_25 rfl (by decide) ?_
      obtain rfl := Option.some.inj hf
      exact vv_iret dX8_span_27 rfl
    · rw [if_neg c3] at hf
      refine vv_iload 15 dX8_span_13 rfl rfl ?_
      refine vv_if_lt 25 18 dX8_span_15 rfl (by decide) (fun c4 => ?_) (fun c4 => ?_)
      · rw [if_pos c4] at hf
        refine vv_bipush 27 (v := (-2)) dX8_span_25 rfl (by decide) ?_
        obtain rfl := Option.some.inj hf
        exact vv_iret dX8_span_27 rfl
      · rw [if_neg c4] at hf
        refine vv_iload 20 dX8_span_18 rfl rfl ?_
        refine vv_bipush 22 (v := 6) dX8_span_20 rfl (by decide) ?_
        refine vv_icmp_le 28 25 dX8_span_22 rfl (by decide) (fun c5 => ?_) (fun c5 => ?_)
        · rw [if_pos c5] at hf
          refine vv_iload 30 dX8_span_28 rfl rfl ?_
          refine vv_iconst 31 (v := 1) dX8_span_30 rfl (by decide) ?_
          refine vv_icmp_ne 46 34 dX8_span_31 rfl (by decide) (fun c6 => ?_) (fun c6 => ?_)
          · rw [if_pos c6] at hf
            refine vv_aload_n 35 dX8_span_34 rfl rfl ?_
            obtain ⟨b7, g_b7, hf⟩ := bind_s hf
            have t_b7 := (ldA_spec g_b7).2
            refine gf_RX8_11 38 dX8_span_35 rfl t_a0 (ldA_spec g_b7).1 ?_
            refine vv_iload_n 39 dX8_span_38 rfl rfl ?_
            obtain ⟨b8, g_b8, hf⟩ := bind_s hf
            have t_b8 := (alO_spec g_b8).2
            refine vv_aald3 40 dX8_span_39 rfl t_b7 g_b8 ?_
            refine vv_iload_n 41 dX8_span_40 rfl rfl ?_
            refine vv_iload_n 42 dX8_span_41 rfl rfl ?_
            obtain ⟨q9, g_q9, hf⟩ := bind_s hf
            refine vv_callV 45 (st := []) (As := [.int x2, .int x3]) (stk2 := [.int q9]) (cl2 := 0) (sl2 := 0) dX8_span_42 rfl lk_RX8_273 w_855 w_856 rfl t_b8 ⟨(Nat.le_of_ble_eq_true rfl), (Nat.le_of_ble_eq_true rfl)⟩ rfl rfl ⟨(Nat.le_of_ble_eq_true rfl), (Nat.le_of_ble_eq_true rfl)⟩ rfl (Nat.le_of_ble_eq_true rfl) rfl rfl rfl rfl (c_X7_opened t_b8 g_q9) ?_
            obtain rfl := Option.some.inj hf
            exact vv_iret dX8_span_45 rfl
          · rw [if_neg c6] at hf
            refine vv_aload_n 47 dX8_span_46 rfl rfl ?_
            obtain ⟨b10, g_b10, hf⟩ := bind_s hf
            have t_b10 := (ldA_spec g_b10).2
            refine gf_RX8_11 50 dX8_span_47 rfl t_a0 (ldA_spec g_b10).1 ?_
            refine vv_iload_n 51 dX8_span_50 rfl rfl ?_
            obtain ⟨b11, g_b11, hf⟩ := bind_s hf
            have t_b11 := (alO_spec g_b11).2
            refine vv_aald3 52 dX8_span_51 rfl t_b10 g_b11 ?_
            refine vv_iload_n 53 dX8_span_52 rfl rfl ?_
            refine vv_iload_n 54 dX8_span_53 rfl rfl ?_
            refine vv_aload_n 55 dX8_span_54 rfl rfl ?_
            obtain ⟨b12, g_b12, hf⟩ := bind_s hf
            have t_b12 := (ldO_spec g_b12).2
            refine gf_RX8_44 58 dX8_span_55 rfl t_a0 (ldO_spec g_b12).1 ?_
            refine vv_aload_n 59 dX8_span_58 rfl rfl ?_
            obtain ⟨b13, g_b13, hf⟩ := bind_s hf
            have t_b13 := (ldO_spec g_b13).2
            refine gf_RX8_25 62 dX8_span_59 rfl t_a0 (ldO_spec g_b13).1 ?_
            obtain ⟨q14, g_q14, hf⟩ := bind_s hf
            refine vv_callV 65 (st := []) (As := [.int x2, .int x3, .ref b12, .ref b13]) (stk2 := []) (cl2 := 0) (sl2 := 0) dX8_span_62 rfl lk_RX8_228 w_697 w_698 rfl t_b11 ⟨(Nat.le_of_ble_eq_true rfl), (Nat.le_of_ble_eq_true rfl)⟩ rfl rfl ⟨(Nat.le_of_ble_eq_true rfl), (Nat.le_of_ble_eq_true rfl)⟩ rfl (Nat.le_of_ble_eq_true rfl) rfl rfl rfl rfl (c_X7_gather t_b11 t_b12 t_b13 g_q14) ?_
            refine vv_iload 67 dX8_span_65 rfl rfl ?_
            by_cases c15 : x4 = 0
            · rw [if_pos c15] at hf
              refine vv_tabK 96 (k := 0) c15 dX8_span_67 (by decide) (by decide) (off := 29) rfl (by decide) ?_
              exact VV.lle (v_X8_span_96 t_a0 hf) (lle_s (lle_n (lle_n (lle_n (lle_n lle_nil)))))
            rw [if_neg c15] at hf
            by_cases c16 : x4 = 1
            · rw [if_pos c16] at hf
              refine vv_tabK 136 (k := 1) c16 dX8_span_67 (by decide) (by decide) (off := 69) rfl (by decide) ?_
              exact VV.lle (v_X8_span_136 t_a0 hf) (lle_s (lle_n (lle_n (lle_n (lle_s lle_nil)))))
            rw [if_neg c16] at hf
            by_cases c17 : x4 = 2
            · rw [if_pos c17] at hf
              refine vv_tabK 104 (k := 2) c17 dX8_span_67 (by decide) (by decide) (off := 37) rfl (by decide) ?_
              exact VV.lle (v_X8_span_104 t_a0 hf) (lle_s (lle_n (lle_n (lle_n (lle_n lle_nil)))))
            rw [if_neg c17] at hf
            by_cases c18 : x4 = 3
            · rw [if_pos c18] at hf
              refine vv_tabK 128 (k := 3) c18 dX8_span_67 (by decide) (by decide) (off := 61) rfl (by decide) ?_
              exact VV.lle (v_X8_span_128 t_a0 hf) (lle_s (lle_n (lle_n (lle_n (lle_n lle_nil)))))
            rw [if_neg c18] at hf
            refine vv_tabOut 136 dX8_span_67 (tab_out (n := 3) (by decide) (fun k hk => ?_)) (by decide) ?_
            · match k, hk with
              | 0, _ => exact c15
              | 1, _ => exact c16
              | 2, _ => exact c17
              | 3, _ => exact c18
              | k + 4, hk => exact absurd hk (by omega)
            exact VV.lle (v_X8_span_136 t_a0 hf) (lle_s (lle_n (lle_n (lle_n (lle_s lle_nil)))))
        · rw [if_neg c5] at hf
          refine vv_bipush 27 (v := (-2)) dX8_span_25 rfl (by decide) ?_
          obtain rfl := Option.some.inj hf
          exact vv_iret dX8_span_27 rfl
  · rw [if_neg c2] at hf
    refine vv_bipush 27 (v := (-2)) dX8_span_25 rfl (by decide) ?_
    obtain rfl := Option.some.inj hf
    exact vv_iret dX8_span_27 rfl

theorem c_X8_span {w : Wo} {K : Kn} {a0 : Nat} {x1 : Int32} {x2 : Int32} {x3 : Int32} {x4 : Int32} {q : (Int32 × Mem)} {m : Mem} (t_a0 : K a0 = some (.inl 7)) (hf : F_X8_span K m a0 x1 x2 x3 x4 = some q) : MM w K K yX8_span cX8_span 5 (some .int) rm_X8_span [.ref a0, .int x1, .int x2, .int x3, .int x4] m (some (.int q.1)) q.2 0 0 :=
  mm_of (ini := false) (n := 0) (plainFor_of_name (by decide)) rfl (fun h => by first | rfl | cases h) (Nat.le_of_ble_eq_true rfl) rfl (v_X8_span_0 t_a0 hf)

set_option maxHeartbeats 4000000 in
theorem v_X5_keep_0 {w : Wo} {K : Kn} {a0 : Nat} {x1 : Int32} {x2 : Int32} {q : Mem} (t_a0 : K a0 = some (.inl 4)) {m : Mem} (hf : f_X5_keep K a0 x1 x2 m = some q) : VV w RX5 cX5_keep 3 none rm_X5_keep false (QM w K none q 0 0) K 0 [some (.ref a0), some (.int x1), some (.int x2)] [] 0 0 m := by
  unfold f_X5_keep at hf
  refine vv_aload_n 1 dX5_keep_0 rfl rfl ?_
  obtain ⟨b1, g_b1, hf⟩ := bind_s hf
  have t_b1 := (ldA_spec g_b1).2
  refine gf_RX5_9 4 dX5_keep_1 rfl t_a0 (ldA_spec g_b1).1 ?_
  refine vv_iload_n 5 dX5_keep_4 rfl rfl ?_
  refine vv_aload_n 6 dX5_keep_5 rfl rfl ?_
  obtain ⟨b2, g_b2, hf⟩ := bind_s hf
  have t_b2 := (ldA_spec g_b2).2
  refine gf_RX5_9 9 dX5_keep_6 rfl t_a0 (ldA_spec g_b2).1 ?_
  refine vv_iload_n 10 dX5_keep_9 rfl rfl ?_
  obtain ⟨r3, g_r3, hf⟩ := bind_s hf
  refine vv_iald 11 dX5_keep_10 rfl t_b2 g_r3 ?_
  obtain ⟨m4, g_m4, hf⟩ := bind_s hf
  refine vv_iast 12 dX5_keep_11 rfl t_b1 g_m4 ?_
  refine vv_aload_n 13 dX5_keep_12 rfl rfl ?_
  obtain ⟨b5, g_b5, hf⟩ := bind_s hf
  have t_b5 := (ldA_spec g_b5).2
  refine gf_RX5_15 16 dX5_keep_13 rfl t_a0 (ldA_spec g_b5).1 ?_
  refine vv_iload_n 17 dX5_keep_16 rfl rfl ?_
  refine vv_aload_n 18 dX5_keep_17 rfl rfl ?_
  obtain ⟨b6, g_b6, hf⟩ := bind_s hf
  have t_b6 := (ldA_spec g_b6).2
  refine gf_RX5_15 21 dX5_keep_18 rfl t_a0 (ldA_spec g_b6).1 ?_
  refine vv_iload_n 22 dX5_keep_21 rfl rfl ?_
  obtain ⟨r7, g_r7, hf⟩ := bind_s hf
  refine vv_lald 23 dX5_keep_22 rfl t_b6 g_r7 ?_
  obtain ⟨m8, g_m8, hf⟩ := bind_s hf
  refine vv_last 24 dX5_keep_23 rfl t_b5 g_m8 ?_
  obtain rfl := Option.some.inj hf
  exact vv_vret dX5_keep_24 rfl

theorem c_X5_keep {w : Wo} {K : Kn} {a0 : Nat} {x1 : Int32} {x2 : Int32} {q : Mem} {m : Mem} (t_a0 : K a0 = some (.inl 4)) (hf : F_X5_keep K m a0 x1 x2 = some q) : MM w K K yX5_keep cX5_keep 3 none rm_X5_keep [.ref a0, .int x1, .int x2] m none q 0 0 :=
  mm_of (ini := false) (n := 0) (plainFor_of_name (by decide)) rfl (fun h => by first | rfl | cases h) (Nat.le_of_ble_eq_true rfl) rfl (v_X5_keep_0 t_a0 hf)

set_option maxHeartbeats 4000000 in
theorem v_X5_keepNumbers_33 {w : Wo} {K : Kn} {a0 : Nat} {q : Mem} (t_a0 : K a0 = some (.inl 4)) (k4 : Mem → Int32 → Int32 → Option Mem) (hk4 : ∀ (m : Mem) (x1 : Int32) (x2 : Int32), k4 m x1 x2 = some q → VV w RX5 cX5_keepNumbers 3 none rm_X5_keepNumbers false (QM w K none q 0 0) K 4 [some (.ref a0), some (.int x1), some (.int x2)] [] 0 0 m) {m : Mem} {x1 : Int32} {x2 : Int32} (hf : f_X5_keepNumbers_33 K a0 k4 m x1 x2 = some q) : VV w RX5 cX5_keepNumbers 3 none rm_X5_keepNumbers false (QM w K none q 0 0) K 33 [some (.ref a0), some (.int x1), some (.int x2)] [] 0 0 m := by
  unfold f_X5_keepNumbers_33 at hf
  obtain ⟨z1, e_z1, hf⟩ := bd_s hf
  refine vv_iincE (q := 36) (v := z1) (c := 1) (L' := [some (.ref a0), some (.int x1), some (.int z1)]) e_z1 dX5_keepNumbers_33 rfl rfl (by decide) (Nat.le_of_ble_eq_true rfl) rfl ?_
  refine vv_goto 4 dX5_keepNumbers_36 (by decide) ?_
  exact hk4 _ _ _ hf

set_option maxHeartbeats 4000000 in
theorem v_X5_keepNumbers_4B {w : Wo} {K : Kn} {a0 : Nat} {q : Mem} (t_a0 : K a0 = some (.inl 4)) (k4 : Mem → Int32 → Int32 → Option Mem) (hk4 : ∀ (m : Mem) (x1 : Int32) (x2 : Int32), k4 m x1 x2 = some q → VV w RX5 cX5_keepNumbers 3 none rm_X5_keepNumbers false (QM w K none q 0 0) K 4 [some (.ref a0), some (.int x1), some (.int x2)] [] 0 0 m) {m : Mem} {x1 : Int32} {x2 : Int32} (hf : f_X5_keepNumbers_4B K a0 k4 m x1 x2 = some q) : VV w RX5 cX5_keepNumbers 3 none rm_X5_keepNumbers false (QM w K none q 0 0) K 4 [some (.ref a0), some (.int x1), some (.int x2)] [] 0 0 m := by
  unfold f_X5_keepNumbers_4B at hf
  refine vv_iload_n 5 dX5_keepNumbers_4 rfl rfl ?_
  refine vv_aload_n 6 dX5_keepNumbers_5 rfl rfl ?_
  refine gf_RX5_19 9 dX5_keepNumbers_6 rfl t_a0 ?_
  refine vv_icmp_ge 39 12 dX5_keepNumbers_9 rfl (by decide) (fun c1 => ?_) (fun c1 => ?_)
  · rw [if_pos c1] at hf
    refine vv_aload_n 40 dX5_keepNumbers_39 rfl rfl ?_
    refine vv_iload_n 41 dX5_keepNumbers_40 rfl rfl ?_
    obtain ⟨m2, e_m2, hf⟩ := bd_s hf
    refine pf_RX5_19 44 dX5_keepNumbers_41 rfl t_a0 e_m2 ?_
    obtain rfl := Option.some.inj hf
    exact vv_vret dX5_keepNumbers_44 rfl
  · rw [if_neg c1] at hf
    refine vv_aload_n 13 dX5_keepNumbers_12 rfl rfl ?_
    obtain ⟨b3, g_b3, hf⟩ := bind_s hf
    have t_b3 := (ldA_spec g_b3).2
    refine gf_RX5_15 16 dX5_keepNumbers_13 rfl t_a0 (ldA_spec g_b3).1 ?_
    refine vv_iload_n 17 dX5_keepNumbers_16 rfl rfl ?_
    obtain ⟨r4, g_r4, hf⟩ := bind_s hf
    refine vv_lald 18 dX5_keepNumbers_17 rfl t_b3 g_r4 ?_
    obtain ⟨q5, g_q5, hf⟩ := bind_s hf
    refine vv_callS 21 (st := []) (As := [.long r4]) (stk2 := [.int q5]) (cl2 := 0) (sl2 := 0) dX5_keepNumbers_18 rfl lk_RX5_37 w_834 ⟨(Nat.le_of_ble_eq_true rfl), (Nat.le_of_ble_eq_true rfl)⟩ rfl rfl ⟨(Nat.le_of_ble_eq_true rfl), (Nat.le_of_ble_eq_true rfl)⟩ rfl (Nat.le_of_ble_eq_true rfl) rfl rfl rfl rfl (c_X3_isNumber g_q5) ?_
    refine vv_if_eq 33 24 dX5_keepNumbers_21 rfl (by decide) (fun c6 => ?_) (fun c6 => ?_)
    · rw [if_pos c6] at hf
      exact v_X5_keepNumbers_33 t_a0 k4 hk4 hf
    · rw [if_neg c6] at hf
      refine vv_aload_n 25 dX5_keepNumbers_24 rfl rfl ?_
      refine vv_iload_n 26 dX5_keepNumbers_25 rfl rfl ?_
      refine vv_iload_n 27 dX5_keepNumbers_26 rfl rfl ?_
      obtain ⟨q7, g_q7, hf⟩ := bind_s hf
      refine vv_callV 30 (st := []) (As := [.int x1, .int x2]) (stk2 := []) (cl2 := 0) (sl2 := 0) dX5_keepNumbers_27 rfl lk_RX5_52 w_877 w_14 rfl t_a0 ⟨(Nat.le_of_ble_eq_true rfl), (Nat.le_of_ble_eq_true rfl)⟩ rfl rfl ⟨(Nat.le_of_ble_eq_true rfl), (Nat.le_of_ble_eq_true rfl)⟩ rfl (Nat.le_of_ble_eq_true rfl) rfl rfl rfl rfl (c_X5_keep t_a0 g_q7) ?_
      obtain ⟨z8, e_z8, hf⟩ := bd_s hf
      refine vv_iincE (q := 33) (v := z8) (c := 1) (L' := [some (.ref a0), some (.int z8), some (.int x2)]) e_z8 dX5_keepNumbers_30 rfl rfl (by decide) (Nat.le_of_ble_eq_true rfl) rfl ?_
      exact v_X5_keepNumbers_33 t_a0 k4 hk4 hf

theorem v_X5_keepNumbers_4 {w : Wo} {K : Kn} {a0 : Nat} {q : Mem} (t_a0 : K a0 = some (.inl 4)) : ∀ (n : Nat) (m : Mem) (x1 : Int32) (x2 : Int32), f_X5_keepNumbers_4 K a0 n m x1 x2 = some q → VV w RX5 cX5_keepNumbers 3 none rm_X5_keepNumbers false (QM w K none q 0 0) K 4 [some (.ref a0), some (.int x1), some (.int x2)] [] 0 0 m := by
  intro n
  induction n with
  | zero => intro m x1 x2 hf; cases hf
  | succ n ih => intro m x1 x2 hf; exact v_X5_keepNumbers_4B (a0 := a0) t_a0 (f_X5_keepNumbers_4 K a0 n) ih hf

set_option maxHeartbeats 4000000 in
theorem v_X5_keepNumbers_0 {w : Wo} {K : Kn} {a0 : Nat} {q : Mem} (t_a0 : K a0 = some (.inl 4)) {m : Mem} (hf : f_X5_keepNumbers K a0 m = some q) : VV w RX5 cX5_keepNumbers 3 none rm_X5_keepNumbers false (QM w K none q 0 0) K 0 [some (.ref a0), none, none] [] 0 0 m := by
  unfold f_X5_keepNumbers at hf
  refine vv_iconst 1 (v := 0) dX5_keepNumbers_0 rfl (by decide) ?_
  refine vv_istore_n 2 (L' := [some (.ref a0), some (.int (0 : Int32)), none]) dX5_keepNumbers_1 rfl (Nat.le_of_ble_eq_true rfl) rfl ?_
  refine vv_iconst 3 (v := 0) dX5_keepNumbers_2 rfl (by decide) ?_
  refine vv_istore_n 4 (L' := [some (.ref a0), some (.int (0 : Int32)), some (.int (0 : Int32))]) dX5_keepNumbers_3 rfl (Nat.le_of_ble_eq_true rfl) rfl ?_
  exact v_X5_keepNumbers_4 t_a0 FU _ _ _ hf

theorem c_X5_keepNumbers {w : Wo} {K : Kn} {a0 : Nat} {q : Mem} {m : Mem} (t_a0 : K a0 = some (.inl 4)) (hf : F_X5_keepNumbers K m a0 = some q) : MM w K K yX5_keepNumbers cX5_keepNumbers 3 none rm_X5_keepNumbers [.ref a0] m none q 0 0 :=
  mm_of (ini := false) (n := 2) (plainFor_of_name (by decide)) rfl (fun h => by first | rfl | cases h) (Nat.le_of_ble_eq_true rfl) rfl (v_X5_keepNumbers_0 t_a0 hf)

set_option maxHeartbeats 4000000 in
theorem v_X3_order_0 {w : Wo} {K : Kn} {x0 : Int64} {q : Int64} {m : Mem} (hf : f_X3_order x0 = some q) : VV w RX3 cX3_order 2 (some .long) rm_X3_order false (QM w K (some (.long q)) m 0 0) K 0 [some (.long x0), none] [] 0 0 m := by
  unfold f_X3_order at hf
  refine vv_lload_n 1 dX3_order_0 rfl rfl ?_
  refine vv_lconst 2 (v := 0) dX3_order_1 rfl (by decide) ?_
  refine vv_lcmp 3 dX3_order_2 rfl ?_
  refine vv_if_lt 10 6 dX3_order_3 rfl (by decide) (fun c1 => ?_) (fun c1 => ?_)
  · rw [if_pos c1] at hf
    refine vv_lload_n 11 dX3_order_10 rfl rfl ?_
    refine vv_ldc2 14 (v := 9223372036854775807) dX3_order_11 rfl w_836 ?_
    refine vv_land 15 dX3_order_14 rfl ?_
    refine vv_lneg 16 dX3_order_15 rfl ?_
    obtain rfl := Option.some.inj hf
    exact vv_lret dX3_order_16 rfl
  · rw [if_neg c1] at hf
    refine vv_lload_n 7 dX3_order_6 rfl rfl ?_
    refine vv_goto 16 dX3_order_7 (by decide) ?_
    obtain rfl := Option.some.inj hf
    exact vv_lret dX3_order_16 rfl

theorem c_X3_order {w : Wo} {K : Kn} {x0 : Int64} {q : Int64} {m : Mem} (hf : F_X3_order x0 = some q) : MM w K K yX3_order cX3_order 2 (some .long) rm_X3_order [.long x0] m (some (.long q)) m 0 0 :=
  mm_of (ini := false) (n := 0) (plainFor_of_name (by decide)) rfl (fun h => by first | rfl | cases h) (Nat.le_of_ble_eq_true rfl) rfl (v_X3_order_0 hf)

set_option maxHeartbeats 4000000 in
theorem v_X5_leastOf_41 {w : Wo} {K : Kn} {a0 : Nat} {q : Int64} {m : Mem} (t_a0 : K a0 = some (.inl 4)) (k9 : Int64 → Int32 → Option Int64) (hk9 : ∀ (x1 : Int64) (x3 : Int32), k9 x1 x3 = some q → VV w RX5 cX5_leastOf 4 (some .long) rm_X5_leastOf false (QM w K (some (.long q)) m 0 0) K 9 [some (.ref a0), some (.long x1), none, some (.int x3)] [] 0 0 m) {x1 : Int64} {x3 : Int32} (hf : f_X5_leastOf_41 K m a0 k9 x1 x3 = some q) : VV w RX5 cX5_leastOf 4 (some .long) rm_X5_leastOf false (QM w K (some (.long q)) m 0 0) K 41 [some (.ref a0), some (.long x1), none, some (.int x3)] [] 0 0 m := by
  unfold f_X5_leastOf_41 at hf
  obtain ⟨z1, e_z1, hf⟩ := bd_s hf
  refine vv_iincE (q := 44) (v := z1) (c := 1) (L' := [some (.ref a0), some (.long x1), none, some (.int z1)]) e_z1 dX5_leastOf_41 rfl rfl (by decide) (Nat.le_of_ble_eq_true rfl) rfl ?_
  refine vv_goto 9 dX5_leastOf_44 (by decide) ?_
  exact hk9 _ _ hf

set_option maxHeartbeats 4000000 in
theorem v_X5_leastOf_9B {w : Wo} {K : Kn} {a0 : Nat} {q : Int64} {m : Mem} (t_a0 : K a0 = some (.inl 4)) (k9 : Int64 → Int32 → Option Int64) (hk9 : ∀ (x1 : Int64) (x3 : Int32), k9 x1 x3 = some q → VV w RX5 cX5_leastOf 4 (some .long) rm_X5_leastOf false (QM w K (some (.long q)) m 0 0) K 9 [some (.ref a0), some (.long x1), none, some (.int x3)] [] 0 0 m) {x1 : Int64} {x3 : Int32} (hf : f_X5_leastOf_9B K m a0 k9 x1 x3 = some q) : VV w RX5 cX5_leastOf 4 (some .long) rm_X5_leastOf false (QM w K (some (.long q)) m 0 0) K 9 [some (.ref a0), some (.long x1), none, some (.int x3)] [] 0 0 m := by
  unfold f_X5_leastOf_9B at hf
  refine vv_iload_n 10 dX5_leastOf_9 rfl rfl ?_
  refine vv_aload_n 11 dX5_leastOf_10 rfl rfl ?_
  refine gf_RX5_19 14 dX5_leastOf_11 rfl t_a0 ?_
  refine vv_icmp_ge 47 17 dX5_leastOf_14 rfl (by decide) (fun c1 => ?_) (fun c1 => ?_)
  · rw [if_pos c1] at hf
    refine vv_lload_n 48 dX5_leastOf_47 rfl rfl ?_
    obtain rfl := Option.some.inj hf
    exact vv_lret dX5_leastOf_48 rfl
  · rw [if_neg c1] at hf
    refine vv_aload_n 18 dX5_leastOf_17 rfl rfl ?_
    obtain ⟨b2, g_b2, hf⟩ := bind_s hf
    have t_b2 := (ldA_spec g_b2).2
    refine gf_RX5_15 21 dX5_leastOf_18 rfl t_a0 (ldA_spec g_b2).1 ?_
    refine vv_iload_n 22 dX5_leastOf_21 rfl rfl ?_
    obtain ⟨r3, g_r3, hf⟩ := bind_s hf
    refine vv_lald 23 dX5_leastOf_22 rfl t_b2 g_r3 ?_
    obtain ⟨q4, g_q4, hf⟩ := bind_s hf
    refine vv_callS 26 (st := []) (As := [.long r3]) (stk2 := [.long q4]) (cl2 := 0) (sl2 := 0) dX5_leastOf_23 rfl lk_RX5_43 w_839 ⟨(Nat.le_of_ble_eq_true rfl), (Nat.le_of_ble_eq_true rfl)⟩ rfl rfl ⟨(Nat.le_of_ble_eq_true rfl), (Nat.le_of_ble_eq_true rfl)⟩ rfl (Nat.le_of_ble_eq_true rfl) rfl rfl rfl rfl (c_X3_order g_q4) ?_
    refine vv_lload_n 27 dX5_leastOf_26 rfl rfl ?_
    obtain ⟨q5, g_q5, hf⟩ := bind_s hf
    refine vv_callS 30 (st := [.long q4]) (As := [.long x1]) (stk2 := [.long q5, .long q4]) (cl2 := 0) (sl2 := 0) dX5_leastOf_27 rfl lk_RX5_43 w_839 ⟨(Nat.le_of_ble_eq_true rfl), (Nat.le_of_ble_eq_true rfl)⟩ rfl rfl ⟨(Nat.le_of_ble_eq_true rfl), (Nat.le_of_ble_eq_true rfl)⟩ rfl (Nat.le_of_ble_eq_true rfl) rfl rfl rfl rfl (c_X3_order g_q5) ?_
    refine vv_lcmp 31 dX5_leastOf_30 rfl ?_
    refine vv_if_ge 41 34 dX5_leastOf_31 rfl (by decide) (fun c6 => ?_) (fun c6 => ?_)
    · rw [if_pos c6] at hf
      exact v_X5_leastOf_41 t_a0 k9 hk9 hf
    · rw [if_neg c6] at hf
      refine vv_aload_n 35 dX5_leastOf_34 rfl rfl ?_
      obtain ⟨b7, g_b7, hf⟩ := bind_s hf
      have t_b7 := (ldA_spec g_b7).2
      refine gf_RX5_15 38 dX5_leastOf_35 rfl t_a0 (ldA_spec g_b7).1 ?_
      refine vv_iload_n 39 dX5_leastOf_38 rfl rfl ?_
      obtain ⟨r8, g_r8, hf⟩ := bind_s hf
      refine vv_lald 40 dX5_leastOf_39 rfl t_b7 g_r8 ?_
      refine vv_lstore_n 41 (L' := [some (.ref a0), some (.long r8), none, some (.int x3)]) dX5_leastOf_40 rfl (Nat.le_of_ble_eq_true rfl) rfl ?_
      exact v_X5_leastOf_41 t_a0 k9 hk9 hf

theorem v_X5_leastOf_9 {w : Wo} {K : Kn} {a0 : Nat} {q : Int64} {m : Mem} (t_a0 : K a0 = some (.inl 4)) : ∀ (n : Nat) (x1 : Int64) (x3 : Int32), f_X5_leastOf_9 K m a0 n x1 x3 = some q → VV w RX5 cX5_leastOf 4 (some .long) rm_X5_leastOf false (QM w K (some (.long q)) m 0 0) K 9 [some (.ref a0), some (.long x1), none, some (.int x3)] [] 0 0 m := by
  intro n
  induction n with
  | zero => intro x1 x3 hf; cases hf
  | succ n ih => intro x1 x3 hf; exact v_X5_leastOf_9B (a0 := a0) t_a0 (f_X5_leastOf_9 K m a0 n) ih hf

set_option maxHeartbeats 4000000 in
theorem v_X5_leastOf_0 {w : Wo} {K : Kn} {a0 : Nat} {q : Int64} {m : Mem} (t_a0 : K a0 = some (.inl 4)) (hf : f_X5_leastOf K m a0 = some q) : VV w RX5 cX5_leastOf 4 (some .long) rm_X5_leastOf false (QM w K (some (.long q)) m 0 0) K 0 [some (.ref a0), none, none, none] [] 0 0 m := by
  unfold f_X5_leastOf at hf
  refine vv_aload_n 1 dX5_leastOf_0 rfl rfl ?_
  obtain ⟨b1, g_b1, hf⟩ := bind_s hf
  have t_b1 := (ldA_spec g_b1).2
  refine gf_RX5_15 4 dX5_leastOf_1 rfl t_a0 (ldA_spec g_b1).1 ?_
  refine vv_iconst 5 (v := 0) dX5_leastOf_4 rfl (by decide) ?_
  obtain ⟨r2, g_r2, hf⟩ := bind_s hf
  refine vv_lald 6 dX5_leastOf_5 rfl t_b1 g_r2 ?_
  refine vv_lstore_n 7 (L' := [some (.ref a0), some (.long r2), none, none]) dX5_leastOf_6 rfl (Nat.le_of_ble_eq_true rfl) rfl ?_
  refine vv_iconst 8 (v := 1) dX5_leastOf_7 rfl (by decide) ?_
  refine vv_istore_n 9 (L' := [some (.ref a0), some (.long r2), none, some (.int (1 : Int32))]) dX5_leastOf_8 rfl (Nat.le_of_ble_eq_true rfl) rfl ?_
  exact v_X5_leastOf_9 t_a0 FU _ _ hf

theorem c_X5_leastOf {w : Wo} {K : Kn} {a0 : Nat} {q : Int64} {m : Mem} (t_a0 : K a0 = some (.inl 4)) (hf : F_X5_leastOf K m a0 = some q) : MM w K K yX5_leastOf cX5_leastOf 4 (some .long) rm_X5_leastOf [.ref a0] m (some (.long q)) m 0 0 :=
  mm_of (ini := false) (n := 3) (plainFor_of_name (by decide)) rfl (fun h => by first | rfl | cases h) (Nat.le_of_ble_eq_true rfl) rfl (v_X5_leastOf_0 t_a0 hf)

set_option maxHeartbeats 4000000 in
theorem v_X5_greatestOf_41 {w : Wo} {K : Kn} {a0 : Nat} {q : Int64} {m : Mem} (t_a0 : K a0 = some (.inl 4)) (k9 : Int64 → Int32 → Option Int64) (hk9 : ∀ (x1 : Int64) (x3 : Int32), k9 x1 x3 = some q → VV w RX5 cX5_greatestOf 4 (some .long) rm_X5_greatestOf false (QM w K (some (.long q)) m 0 0) K 9 [some (.ref a0), some (.long x1), none, some (.int x3)] [] 0 0 m) {x1 : Int64} {x3 : Int32} (hf : f_X5_greatestOf_41 K m a0 k9 x1 x3 = some q) : VV w RX5 cX5_greatestOf 4 (some .long) rm_X5_greatestOf false (QM w K (some (.long q)) m 0 0) K 41 [some (.ref a0), some (.long x1), none, some (.int x3)] [] 0 0 m := by
  unfold f_X5_greatestOf_41 at hf
  obtain ⟨z1, e_z1, hf⟩ := bd_s hf
  refine vv_iincE (q := 44) (v := z1) (c := 1) (L' := [some (.ref a0), some (.long x1), none, some (.int z1)]) e_z1 dX5_greatestOf_41 rfl rfl (by decide) (Nat.le_of_ble_eq_true rfl) rfl ?_
  refine vv_goto 9 dX5_greatestOf_44 (by decide) ?_
  exact hk9 _ _ hf

set_option maxHeartbeats 4000000 in
theorem v_X5_greatestOf_9B {w : Wo} {K : Kn} {a0 : Nat} {q : Int64} {m : Mem} (t_a0 : K a0 = some (.inl 4)) (k9 : Int64 → Int32 → Option Int64) (hk9 : ∀ (x1 : Int64) (x3 : Int32), k9 x1 x3 = some q → VV w RX5 cX5_greatestOf 4 (some .long) rm_X5_greatestOf false (QM w K (some (.long q)) m 0 0) K 9 [some (.ref a0), some (.long x1), none, some (.int x3)] [] 0 0 m) {x1 : Int64} {x3 : Int32} (hf : f_X5_greatestOf_9B K m a0 k9 x1 x3 = some q) : VV w RX5 cX5_greatestOf 4 (some .long) rm_X5_greatestOf false (QM w K (some (.long q)) m 0 0) K 9 [some (.ref a0), some (.long x1), none, some (.int x3)] [] 0 0 m := by
  unfold f_X5_greatestOf_9B at hf
  refine vv_iload_n 10 dX5_greatestOf_9 rfl rfl ?_
  refine vv_aload_n 11 dX5_greatestOf_10 rfl rfl ?_
  refine gf_RX5_19 14 dX5_greatestOf_11 rfl t_a0 ?_
  refine vv_icmp_ge 47 17 dX5_greatestOf_14 rfl (by decide) (fun c1 => ?_) (fun c1 => ?_)
  · rw [if_pos c1] at hf
    refine vv_lload_n 48 dX5_greatestOf_47 rfl rfl ?_
    obtain rfl := Option.some.inj hf
    exact vv_lret dX5_greatestOf_48 rfl
  · rw [if_neg c1] at hf
    refine vv_aload_n 18 dX5_greatestOf_17 rfl rfl ?_
    obtain ⟨b2, g_b2, hf⟩ := bind_s hf
    have t_b2 := (ldA_spec g_b2).2
    refine gf_RX5_15 21 dX5_greatestOf_18 rfl t_a0 (ldA_spec g_b2).1 ?_
    refine vv_iload_n 22 dX5_greatestOf_21 rfl rfl ?_
    obtain ⟨r3, g_r3, hf⟩ := bind_s hf
    refine vv_lald 23 dX5_greatestOf_22 rfl t_b2 g_r3 ?_
    obtain ⟨q4, g_q4, hf⟩ := bind_s hf
    refine vv_callS 26 (st := []) (As := [.long r3]) (stk2 := [.long q4]) (cl2 := 0) (sl2 := 0) dX5_greatestOf_23 rfl lk_RX5_43 w_839 ⟨(Nat.le_of_ble_eq_true rfl), (Nat.le_of_ble_eq_true rfl)⟩ rfl rfl ⟨(Nat.le_of_ble_eq_true rfl), (Nat.le_of_ble_eq_true rfl)⟩ rfl (Nat.le_of_ble_eq_true rfl) rfl rfl rfl rfl (c_X3_order g_q4) ?_
    refine vv_lload_n 27 dX5_greatestOf_26 rfl rfl ?_
    obtain ⟨q5, g_q5, hf⟩ := bind_s hf
    refine vv_callS 30 (st := [.long q4]) (As := [.long x1]) (stk2 := [.long q5, .long q4]) (cl2 := 0) (sl2 := 0) dX5_greatestOf_27 rfl lk_RX5_43 w_839 ⟨(Nat.le_of_ble_eq_true rfl), (Nat.le_of_ble_eq_true rfl)⟩ rfl rfl ⟨(Nat.le_of_ble_eq_true rfl), (Nat.le_of_ble_eq_true rfl)⟩ rfl (Nat.le_of_ble_eq_true rfl) rfl rfl rfl rfl (c_X3_order g_q5) ?_
    refine vv_lcmp 31 dX5_greatestOf_30 rfl ?_
    refine vv_if_le 41 34 dX5_greatestOf_31 rfl (by decide) (fun c6 => ?_) (fun c6 => ?_)
    · rw [if_pos c6] at hf
      exact v_X5_greatestOf_41 t_a0 k9 hk9 hf
    · rw [if_neg c6] at hf
      refine vv_aload_n 35 dX5_greatestOf_34 rfl rfl ?_
      obtain ⟨b7, g_b7, hf⟩ := bind_s hf
      have t_b7 := (ldA_spec g_b7).2
      refine gf_RX5_15 38 dX5_greatestOf_35 rfl t_a0 (ldA_spec g_b7).1 ?_
      refine vv_iload_n 39 dX5_greatestOf_38 rfl rfl ?_
      obtain ⟨r8, g_r8, hf⟩ := bind_s hf
      refine vv_lald 40 dX5_greatestOf_39 rfl t_b7 g_r8 ?_
      refine vv_lstore_n 41 (L' := [some (.ref a0), some (.long r8), none, some (.int x3)]) dX5_greatestOf_40 rfl (Nat.le_of_ble_eq_true rfl) rfl ?_
      exact v_X5_greatestOf_41 t_a0 k9 hk9 hf

theorem v_X5_greatestOf_9 {w : Wo} {K : Kn} {a0 : Nat} {q : Int64} {m : Mem} (t_a0 : K a0 = some (.inl 4)) : ∀ (n : Nat) (x1 : Int64) (x3 : Int32), f_X5_greatestOf_9 K m a0 n x1 x3 = some q → VV w RX5 cX5_greatestOf 4 (some .long) rm_X5_greatestOf false (QM w K (some (.long q)) m 0 0) K 9 [some (.ref a0), some (.long x1), none, some (.int x3)] [] 0 0 m := by
  intro n
  induction n with
  | zero => intro x1 x3 hf; cases hf
  | succ n ih => intro x1 x3 hf; exact v_X5_greatestOf_9B (a0 := a0) t_a0 (f_X5_greatestOf_9 K m a0 n) ih hf

set_option maxHeartbeats 4000000 in
theorem v_X5_greatestOf_0 {w : Wo} {K : Kn} {a0 : Nat} {q : Int64} {m : Mem} (t_a0 : K a0 = some (.inl 4)) (hf : f_X5_greatestOf K m a0 = some q) : VV w RX5 cX5_greatestOf 4 (some .long) rm_X5_greatestOf false (QM w K (some (.long q)) m 0 0) K 0 [some (.ref a0), none, none, none] [] 0 0 m := by
  unfold f_X5_greatestOf at hf
  refine vv_aload_n 1 dX5_greatestOf_0 rfl rfl ?_
  obtain ⟨b1, g_b1, hf⟩ := bind_s hf
  have t_b1 := (ldA_spec g_b1).2
  refine gf_RX5_15 4 dX5_greatestOf_1 rfl t_a0 (ldA_spec g_b1).1 ?_
  refine vv_iconst 5 (v := 0) dX5_greatestOf_4 rfl (by decide) ?_
  obtain ⟨r2, g_r2, hf⟩ := bind_s hf
  refine vv_lald 6 dX5_greatestOf_5 rfl t_b1 g_r2 ?_
  refine vv_lstore_n 7 (L' := [some (.ref a0), some (.long r2), none, none]) dX5_greatestOf_6 rfl (Nat.le_of_ble_eq_true rfl) rfl ?_
  refine vv_iconst 8 (v := 1) dX5_greatestOf_7 rfl (by decide) ?_
  refine vv_istore_n 9 (L' := [some (.ref a0), some (.long r2), none, some (.int (1 : Int32))]) dX5_greatestOf_8 rfl (Nat.le_of_ble_eq_true rfl) rfl ?_
  exact v_X5_greatestOf_9 t_a0 FU _ _ hf

theorem c_X5_greatestOf {w : Wo} {K : Kn} {a0 : Nat} {q : Int64} {m : Mem} (t_a0 : K a0 = some (.inl 4)) (hf : F_X5_greatestOf K m a0 = some q) : MM w K K yX5_greatestOf cX5_greatestOf 4 (some .long) rm_X5_greatestOf [.ref a0] m (some (.long q)) m 0 0 :=
  mm_of (ini := false) (n := 3) (plainFor_of_name (by decide)) rfl (fun h => by first | rfl | cases h) (Nat.le_of_ble_eq_true rfl) rfl (v_X5_greatestOf_0 t_a0 hf)

set_option maxHeartbeats 4000000 in
theorem v_X3_exponent_0 {w : Wo} {K : Kn} {x0 : Int64} {q : Int32} {m : Mem} (hf : f_X3_exponent x0 = some q) : VV w RX3 cX3_exponent 2 (some .int) rm_X3_exponent false (QM w K (some (.int q)) m 0 0) K 0 [some (.long x0), none] [] 0 0 m := by
  unfold f_X3_exponent at hf
  refine vv_iconst 1 (v := 1) dX3_exponent_0 rfl (by decide) ?_
  refine vv_lload_n 2 dX3_exponent_1 rfl rfl ?_
  refine vv_ldc2 5 (v := 9223372036854775807) dX3_exponent_2 rfl w_836 ?_
  refine vv_land 6 dX3_exponent_5 rfl ?_
  refine vv_bipush 8 (v := 52) dX3_exponent_6 rfl (by decide) ?_
  refine vv_lushr 9 dX3_exponent_8 rfl ?_
  refine vv_l2i 10 dX3_exponent_9 rfl ?_
  obtain ⟨q1, g_q1, hf⟩ := bind_s hf
  refine vv_callS 13 (st := []) (As := [.int (1 : Int32), .int ((lushr (x0 &&& (9223372036854775807 : Int64)) (52 : Int32)).toInt32)]) (stk2 := [.int q1]) (cl2 := 0) (sl2 := 0) dX3_exponent_10 rfl lk_RX3_15 w_827 ⟨(Nat.le_of_ble_eq_true rfl), (Nat.le_of_ble_eq_true rfl)⟩ rfl rfl ⟨(Nat.le_of_ble_eq_true rfl), (Nat.le_of_ble_eq_true rfl)⟩ rfl (Nat.le_of_ble_eq_true rfl) rfl rfl rfl rfl (c_J9_max_7cf53 g_q1) ?_
  obtain rfl := Option.some.inj hf
  exact vv_iret dX3_exponent_13 rfl

theorem c_X3_exponent {w : Wo} {K : Kn} {x0 : Int64} {q : Int32} {m : Mem} (hf : F_X3_exponent x0 = some q) : MM w K K yX3_exponent cX3_exponent 2 (some .int) rm_X3_exponent [.long x0] m (some (.int q)) m 0 0 :=
  mm_of (ini := false) (n := 0) (plainFor_of_name (by decide)) rfl (fun h => by first | rfl | cases h) (Nat.le_of_ble_eq_true rfl) rfl (v_X3_exponent_0 hf)

set_option maxHeartbeats 4000000 in
theorem v_X3_fraction_0 {w : Wo} {K : Kn} {x0 : Int64} {q : Int64} {m : Mem} (hf : f_X3_fraction x0 = some q) : VV w RX3 cX3_fraction 4 (some .long) rm_X3_fraction false (QM w K (some (.long q)) m 0 0) K 0 [some (.long x0), none, none, none] [] 0 0 m := by
  unfold f_X3_fraction at hf
  refine vv_lload_n 1 dX3_fraction_0 rfl rfl ?_
  refine vv_ldc2 4 (v := 4503599627370495) dX3_fraction_1 rfl w_904 ?_
  refine vv_land 5 dX3_fraction_4 rfl ?_
  obtain ⟨z1, e_z1, hf⟩ := bd_s hf
  refine vv_lstore_nE (q := 6) (v := z1) (L' := [some (.long x0), none, some (.long z1), none]) e_z1 dX3_fraction_5 rfl (Nat.le_of_ble_eq_true rfl) rfl ?_
  refine vv_lload_n 7 dX3_fraction_6 rfl rfl ?_
  refine vv_ldc2 10 (v := 9218868437227405312) dX3_fraction_7 rfl w_837 ?_
  refine vv_land 11 dX3_fraction_10 rfl ?_
  refine vv_lconst 12 (v := 0) dX3_fraction_11 rfl (by decide) ?_
  refine vv_lcmp 13 dX3_fraction_12 rfl ?_
  refine vv_if_ne 20 16 dX3_fraction_13 rfl (by decide) (fun c2 => ?_) (fun c2 => ?_)
  · rw [if_pos c2] at hf
    refine vv_lload_n 17 dX3_fraction_16 rfl rfl ?_
    refine vv_goto 25 dX3_fraction_17 (by decide) ?_
    obtain rfl := Option.some.inj hf
    exact vv_lret dX3_fraction_25 rfl
  · rw [if_neg c2] at hf
    refine vv_lload_n 21 dX3_fraction_20 rfl rfl ?_
    refine vv_ldc2 24 (v := 4503599627370496) dX3_fraction_21 rfl w_905 ?_
    refine vv_lor 25 dX3_fraction_24 rfl ?_
    obtain rfl := Option.some.inj hf
    exact vv_lret dX3_fraction_25 rfl

theorem c_X3_fraction {w : Wo} {K : Kn} {x0 : Int64} {q : Int64} {m : Mem} (hf : F_X3_fraction x0 = some q) : MM w K K yX3_fraction cX3_fraction 4 (some .long) rm_X3_fraction [.long x0] m (some (.long q)) m 0 0 :=
  mm_of (ini := false) (n := 2) (plainFor_of_name (by decide)) rfl (fun h => by first | rfl | cases h) (Nat.le_of_ble_eq_true rfl) rfl (v_X3_fraction_0 hf)
