/-! ===== the walks ===== -/
abbrev rm_X9_lessens : Room := { frames := 0, cells := 0, slots := 0, locals := 0 }
abbrev rm_X9_rounds : Room := { frames := 8, cells := 0, slots := 0, locals := 192 }
abbrev rm_X9_rounded : Room := { frames := 8, cells := 0, slots := 0, locals := 192 }
abbrev rm_X9_dearest : Room := { frames := 7, cells := 0, slots := 0, locals := 168 }
abbrev rm_X9_where : Room := { frames := 8, cells := 0, slots := 0, locals := 192 }
abbrev rm_X9_copy : Room := { frames := 2, cells := 0, slots := 0, locals := 46 }
abbrev rm_X9_mendsOf : Room := { frames := 6, cells := 0, slots := 0, locals := 147 }
abbrev rm_X9_mends : Room := { frames := 7, cells := 0, slots := 0, locals := 173 }
abbrev rm_X9_mend : Room := { frames := 7, cells := 0, slots := 0, locals := 173 }
abbrev rm_X9_seals : Room := { frames := 6, cells := 0, slots := 0, locals := 147 }
abbrev rm_X9_drops : Room := { frames := 3, cells := 0, slots := 0, locals := 68 }
abbrev rm_X9_least : Room := { frames := 9, cells := 0, slots := 0, locals := 215 }
abbrev rm_X9_passes : Room := { frames := 8, cells := 0, slots := 0, locals := 192 }
abbrev rm_X9_since : Room := { frames := 8, cells := 0, slots := 0, locals := 192 }
abbrev rm_X9_area : Room := { frames := 9, cells := 0, slots := 0, locals := 215 }
abbrev rm_X9_feed : Room := { frames := 0, cells := 1, slots := 5, locals := 0 }
abbrev rm_X9_end : Room := { frames := 1, cells := 0, slots := 0, locals := 25 }
abbrev rm_X9_takes : Room := { frames := 7, cells := 0, slots := 0, locals := 169 }
set_option maxHeartbeats 4000000 in
theorem v_X9_lessens_80 {w : Wo} {K : Kn} {a0 : Nat} {x1 : Int32} {q : (Int32 × Mem)} (t_a0 : K a0 = some (.inl 8)) (k4 : Mem → Int32 → Int32 → Option (Int32 × Mem)) (hk4 : ∀ (m : Mem) (x2 : Int32) (x3 : Int32), k4 m x2 x3 = some q → VV w RX9 cX9_lessens 7 (some .int) rm_X9_lessens false (QM w K (some (.int q.1)) q.2 0 0) K 4 [some (.ref a0), some (.int x1), some (.int x2), some (.int x3), none, none, none] [] 0 0 m) {m : Mem} {x3 : Int32} {x5 : Int64} {s0 : Int32} {s1 : Int32} (hf : f_X9_lessens_80 K a0 x1 k4 m x3 x5 s0 s1 = some q) : VV w RX9 cX9_lessens 7 (some .int) rm_X9_lessens false (QM w K (some (.int q.1)) q.2 0 0) K 80 [some (.ref a0), some (.int x1), none, some (.int x3), none, some (.long x5), none] [.int s1, .int s0] 0 0 m := by
  unfold f_X9_lessens_80 at hf
  refine vv_iadd 81 dX9_lessens_80 rfl ?_
  obtain ⟨z1, e_z1, hf⟩ := bd_s hf
  refine vv_istore_nE (q := 82) (v := z1) (L' := [some (.ref a0), some (.int x1), some (.int z1), some (.int x3), none, some (.long x5), none]) e_z1 dX9_lessens_81 rfl (Nat.le_of_ble_eq_true rfl) rfl ?_
  refine vv_aload_n 83 dX9_lessens_82 rfl rfl ?_
  obtain ⟨b2, g_b2, hf⟩ := bind_s hf
  have t_b2 := (ldA_spec g_b2).2
  refine gf_RX9_69 86 dX9_lessens_83 rfl t_a0 (ldA_spec g_b2).1 ?_
  refine vv_iload_n 87 dX9_lessens_86 rfl rfl ?_
  refine vv_lload 89 dX9_lessens_87 rfl rfl ?_
  obtain ⟨m3, g_m3, hf⟩ := bind_s hf
  refine vv_last 90 dX9_lessens_89 rfl t_b2 g_m3 ?_
  obtain ⟨z4, e_z4, hf⟩ := bd_s hf
  refine vv_iincE (q := 93) (v := z4) (c := 1) (L' := [some (.ref a0), some (.int x1), some (.int z1), some (.int z4), none, some (.long x5), none]) e_z4 dX9_lessens_90 rfl rfl (by decide) (Nat.le_of_ble_eq_true rfl) rfl ?_
  refine vv_goto 4 dX9_lessens_93 (by decide) ?_
  exact VV.lle (hk4 _ _ _ hf) (lle_s (lle_s (lle_s (lle_s (lle_s (lle_n (lle_s lle_nil)))))))

set_option maxHeartbeats 4000000 in
theorem v_X9_lessens_60 {w : Wo} {K : Kn} {a0 : Nat} {x1 : Int32} {q : (Int32 × Mem)} (t_a0 : K a0 = some (.inl 8)) (k4 : Mem → Int32 → Int32 → Option (Int32 × Mem)) (hk4 : ∀ (m : Mem) (x2 : Int32) (x3 : Int32), k4 m x2 x3 = some q → VV w RX9 cX9_lessens 7 (some .int) rm_X9_lessens false (QM w K (some (.int q.1)) q.2 0 0) K 4 [some (.ref a0), some (.int x1), some (.int x2), some (.int x3), none, none, none] [] 0 0 m) {m : Mem} {x2 : Int32} {x3 : Int32} {s0 : Int64} (hf : f_X9_lessens_60 K a0 x1 k4 m x2 x3 s0 = some q) : VV w RX9 cX9_lessens 7 (some .int) rm_X9_lessens false (QM w K (some (.int q.1)) q.2 0 0) K 60 [some (.ref a0), some (.int x1), some (.int x2), some (.int x3), none, none, none] [.long s0] 0 0 m := by
  unfold f_X9_lessens_60 at hf
  refine vv_lstore 62 (L' := [some (.ref a0), some (.int x1), some (.int x2), some (.int x3), none, some (.long s0), none]) dX9_lessens_60 rfl (Nat.le_of_ble_eq_true rfl) rfl ?_
  refine vv_iload_n 63 dX9_lessens_62 rfl rfl ?_
  refine vv_lload 65 dX9_lessens_63 rfl rfl ?_
  refine vv_aload_n 66 dX9_lessens_65 rfl rfl ?_
  obtain ⟨b1, g_b1, hf⟩ := bind_s hf
  have t_b1 := (ldA_spec g_b1).2
  refine gf_RX9_69 69 dX9_lessens_66 rfl t_a0 (ldA_spec g_b1).1 ?_
  refine vv_iload_n 70 dX9_lessens_69 rfl rfl ?_
  obtain ⟨r2, g_r2, hf⟩ := bind_s hf
  refine vv_lald 71 dX9_lessens_70 rfl t_b1 g_r2 ?_
  refine vv_lcmp 72 dX9_lessens_71 rfl ?_
  refine vv_if_ne 79 75 dX9_lessens_72 rfl (by decide) (fun c3 => ?_) (fun c3 => ?_)
  · rw [if_pos c3] at hf
    refine vv_iconst 76 (v := 0) dX9_lessens_75 rfl (by decide) ?_
    refine vv_goto 80 dX9_lessens_76 (by decide) ?_
    exact VV.lle (v_X9_lessens_80 t_a0 k4 hk4 hf) (lle_s (lle_s (lle_n (lle_s (lle_s (lle_s (lle_s lle_nil)))))))
  · rw [if_neg c3] at hf
    refine vv_iconst 80 (v := 1) dX9_lessens_79 rfl (by decide) ?_
    exact VV.lle (v_X9_lessens_80 t_a0 k4 hk4 hf) (lle_s (lle_s (lle_n (lle_s (lle_s (lle_s (lle_s lle_nil)))))))

set_option maxHeartbeats 4000000 in
theorem v_X9_lessens_34 {w : Wo} {K : Kn} {a0 : Nat} {x1 : Int32} {q : (Int32 × Mem)} (t_a0 : K a0 = some (.inl 8)) (k4 : Mem → Int32 → Int32 → Option (Int32 × Mem)) (hk4 : ∀ (m : Mem) (x2 : Int32) (x3 : Int32), k4 m x2 x3 = some q → VV w RX9 cX9_lessens 7 (some .int) rm_X9_lessens false (QM w K (some (.int q.1)) q.2 0 0) K 4 [some (.ref a0), some (.int x1), some (.int x2), some (.int x3), none, none, none] [] 0 0 m) {m : Mem} {x2 : Int32} {x3 : Int32} {s0 : Int32} (hf : f_X9_lessens_34 K a0 x1 k4 m x2 x3 s0 = some q) : VV w RX9 cX9_lessens 7 (some .int) rm_X9_lessens false (QM w K (some (.int q.1)) q.2 0 0) K 34 [some (.ref a0), some (.int x1), some (.int x2), some (.int x3), none, none, none] [.int s0] 0 0 m := by
  unfold f_X9_lessens_34 at hf
  refine vv_istore 36 (L' := [some (.ref a0), some (.int x1), some (.int x2), some (.int x3), some (.int s0), none, none]) dX9_lessens_34 rfl (Nat.le_of_ble_eq_true rfl) rfl ?_
  refine vv_iload 38 dX9_lessens_36 rfl rfl ?_
  refine vv_if_eq 54 41 dX9_lessens_38 rfl (by decide) (fun c1 => ?_) (fun c1 => ?_)
  · rw [if_pos c1] at hf
    refine vv_aload_n 55 dX9_lessens_54 rfl rfl ?_
    obtain ⟨b2, g_b2, hf⟩ := bind_s hf
    have t_b2 := (ldA_spec g_b2).2
    refine gf_RX9_69 58 dX9_lessens_55 rfl t_a0 (ldA_spec g_b2).1 ?_
    refine vv_iload_n 59 dX9_lessens_58 rfl rfl ?_
    obtain ⟨r3, g_r3, hf⟩ := bind_s hf
    refine vv_lald 60 dX9_lessens_59 rfl t_b2 g_r3 ?_
    exact VV.lle (v_X9_lessens_60 t_a0 k4 hk4 hf) (lle_s (lle_s (lle_s (lle_s (lle_n (lle_s (lle_s lle_nil)))))))
  · rw [if_neg c1] at hf
    refine vv_aload_n 42 dX9_lessens_41 rfl rfl ?_
    obtain ⟨b4, g_b4, hf⟩ := bind_s hf
    have t_b4 := (ldA_spec g_b4).2
    refine gf_RX9_69 45 dX9_lessens_42 rfl t_a0 (ldA_spec g_b4).1 ?_
    refine vv_iload_n 46 dX9_lessens_45 rfl rfl ?_
    obtain ⟨r5, g_r5, hf⟩ := bind_s hf
    refine vv_lald 47 dX9_lessens_46 rfl t_b4 g_r5 ?_
    refine vv_iload_n 48 dX9_lessens_47 rfl rfl ?_
    refine vv_lshr 49 dX9_lessens_48 rfl ?_
    refine vv_iload_n 50 dX9_lessens_49 rfl rfl ?_
    refine vv_lshl 51 dX9_lessens_50 rfl ?_
    refine vv_goto 60 dX9_lessens_51 (by decide) ?_
    exact VV.lle (v_X9_lessens_60 t_a0 k4 hk4 hf) (lle_s (lle_s (lle_s (lle_s (lle_n (lle_s (lle_s lle_nil)))))))

set_option maxHeartbeats 4000000 in
theorem v_X9_lessens_4B {w : Wo} {K : Kn} {a0 : Nat} {x1 : Int32} {q : (Int32 × Mem)} (t_a0 : K a0 = some (.inl 8)) (k4 : Mem → Int32 → Int32 → Option (Int32 × Mem)) (hk4 : ∀ (m : Mem) (x2 : Int32) (x3 : Int32), k4 m x2 x3 = some q → VV w RX9 cX9_lessens 7 (some .int) rm_X9_lessens false (QM w K (some (.int q.1)) q.2 0 0) K 4 [some (.ref a0), some (.int x1), some (.int x2), some (.int x3), none, none, none] [] 0 0 m) {m : Mem} {x2 : Int32} {x3 : Int32} (hf : f_X9_lessens_4B K a0 x1 k4 m x2 x3 = some q) : VV w RX9 cX9_lessens 7 (some .int) rm_X9_lessens false (QM w K (some (.int q.1)) q.2 0 0) K 4 [some (.ref a0), some (.int x1), some (.int x2), some (.int x3), none, none, none] [] 0 0 m := by
  unfold f_X9_lessens_4B at hf
  refine vv_iload_n 5 dX9_lessens_4 rfl rfl ?_
  refine vv_aload_n 6 dX9_lessens_5 rfl rfl ?_
  refine gf_RX9_248 9 dX9_lessens_6 rfl t_a0 ?_
  refine vv_icmp_ge 96 12 dX9_lessens_9 rfl (by decide) (fun c1 => ?_) (fun c1 => ?_)
  · rw [if_pos c1] at hf
    refine vv_iload_n 97 dX9_lessens_96 rfl rfl ?_
    obtain rfl := Option.some.inj hf
    exact vv_iret dX9_lessens_97 rfl
  · rw [if_neg c1] at hf
    refine vv_aload_n 13 dX9_lessens_12 rfl rfl ?_
    obtain ⟨b2, g_b2, hf⟩ := bind_s hf
    have t_b2 := (ldA_spec g_b2).2
    refine gf_RX9_69 16 dX9_lessens_13 rfl t_a0 (ldA_spec g_b2).1 ?_
    refine vv_iload_n 17 dX9_lessens_16 rfl rfl ?_
    obtain ⟨r3, g_r3, hf⟩ := bind_s hf
    refine vv_lald 18 dX9_lessens_17 rfl t_b2 g_r3 ?_
    refine vv_ldc2 21 (v := 9218868437227405312) dX9_lessens_18 rfl w_1510 ?_
    refine vv_land 22 dX9_lessens_21 rfl ?_
    refine vv_ldc2 25 (v := 9218868437227405312) dX9_lessens_22 rfl w_1510 ?_
    refine vv_lcmp 26 dX9_lessens_25 rfl ?_
    refine vv_if_eq 33 29 dX9_lessens_26 rfl (by decide) (fun c4 => ?_) (fun c4 => ?_)
    · rw [if_pos c4] at hf
      refine vv_iconst 34 (v := 0) dX9_lessens_33 rfl (by decide) ?_
      exact v_X9_lessens_34 t_a0 k4 hk4 hf
    · rw [if_neg c4] at hf
      refine vv_iconst 30 (v := 1) dX9_lessens_29 rfl (by decide) ?_
      refine vv_goto 34 dX9_lessens_30 (by decide) ?_
      exact v_X9_lessens_34 t_a0 k4 hk4 hf

theorem v_X9_lessens_4 {w : Wo} {K : Kn} {a0 : Nat} {x1 : Int32} {q : (Int32 × Mem)} (t_a0 : K a0 = some (.inl 8)) : ∀ (n : Nat) (m : Mem) (x2 : Int32) (x3 : Int32), f_X9_lessens_4 K a0 x1 n m x2 x3 = some q → VV w RX9 cX9_lessens 7 (some .int) rm_X9_lessens false (QM w K (some (.int q.1)) q.2 0 0) K 4 [some (.ref a0), some (.int x1), some (.int x2), some (.int x3), none, none, none] [] 0 0 m := by
  intro n
  induction n with
  | zero => intro m x2 x3 hf; cases hf
  | succ n ih => intro m x2 x3 hf; exact v_X9_lessens_4B (a0 := a0) (x1 := x1) t_a0 (f_X9_lessens_4 K a0 x1 n) ih hf

set_option maxHeartbeats 4000000 in
theorem v_X9_lessens_0 {w : Wo} {K : Kn} {a0 : Nat} {x1 : Int32} {q : (Int32 × Mem)} (t_a0 : K a0 = some (.inl 8)) {m : Mem} (hf : f_X9_lessens K a0 x1 m = some q) : VV w RX9 cX9_lessens 7 (some .int) rm_X9_lessens false (QM w K (some (.int q.1)) q.2 0 0) K 0 [some (.ref a0), some (.int x1), none, none, none, none, none] [] 0 0 m := by
  unfold f_X9_lessens at hf
  refine vv_iconst 1 (v := 0) dX9_lessens_0 rfl (by decide) ?_
  refine vv_istore_n 2 (L' := [some (.ref a0), some (.int x1), some (.int (0 : Int32)), none, none, none, none]) dX9_lessens_1 rfl (Nat.le_of_ble_eq_true rfl) rfl ?_
  refine vv_iconst 3 (v := 0) dX9_lessens_2 rfl (by decide) ?_
  refine vv_istore_n 4 (L' := [some (.ref a0), some (.int x1), some (.int (0 : Int32)), some (.int (0 : Int32)), none, none, none]) dX9_lessens_3 rfl (Nat.le_of_ble_eq_true rfl) rfl ?_
  exact v_X9_lessens_4 t_a0 FU _ _ _ hf

theorem c_X9_lessens {w : Wo} {K : Kn} {a0 : Nat} {x1 : Int32} {q : (Int32 × Mem)} {m : Mem} (t_a0 : K a0 = some (.inl 8)) (hf : F_X9_lessens K m a0 x1 = some q) : MM w K K yX9_lessens cX9_lessens 7 (some .int) rm_X9_lessens [.ref a0, .int x1] m (some (.int q.1)) q.2 0 0 :=
  mm_of (ini := false) (n := 5) (plainFor_of_name (by decide)) rfl (fun h => by first | rfl | cases h) (Nat.le_of_ble_eq_true rfl) rfl (v_X9_lessens_0 t_a0 hf)

set_option maxHeartbeats 4000000 in
theorem v_X9_rounds_0 {w : Wo} {K : Kn} {a0 : Nat} {x1 : Int32} {x2 : Int32} {q : (Int32 × Mem)} (t_a0 : K a0 = some (.inl 8)) {m : Mem} (hf : f_X9_rounds K a0 x1 x2 m = some q) : VV w RX9 cX9_rounds 4 (some .int) rm_X9_rounds false (QM w K (some (.int q.1)) q.2 0 0) K 0 [some (.ref a0), some (.int x1), some (.int x2), none] [] 0 0 m := by
  unfold f_X9_rounds at hf
  refine vv_aload_n 1 dX9_rounds_0 rfl rfl ?_
  refine vv_iload_n 2 dX9_rounds_1 rfl rfl ?_
  obtain ⟨q1, g_q1, hf⟩ := bind_s hf
  refine vv_callV 5 (st := []) (As := [.int x1]) (stk2 := [.int q1]) (cl2 := 0) (sl2 := 0) dX9_rounds_2 rfl lk_RX9_87 w_1220 w_21 rfl t_a0 ⟨(Nat.le_of_ble_eq_true rfl), (Nat.le_of_ble_eq_true rfl)⟩ rfl rfl ⟨(Nat.le_of_ble_eq_true rfl), (Nat.le_of_ble_eq_true rfl)⟩ rfl (Nat.le_of_ble_eq_true rfl) rfl rfl rfl rfl (c_X9_isSeries t_a0 g_q1) ?_
  refine vv_if_eq 20 8 dX9_rounds_5 rfl (by decide) (fun c2 => ?_) (fun c2 => ?_)
  · rw [if_pos c2] at hf
    refine vv_bipush 22 (v := (-2)) dX9_rounds_20 rfl (by decide) ?_
    obtain rfl := Option.some.inj hf
    exact vv_iret dX9_rounds_22 rfl
  · rw [if_neg c2] at hf
    refine vv_iload_n 9 dX9_rounds_8 rfl rfl ?_
    refine vv_i2l 10 dX9_rounds_9 rfl ?_
    refine vv_lconst 11 (v := 1) dX9_rounds_10 rfl (by decide) ?_
    refine vv_ldc2 14 (v := 52) dX9_rounds_11 rfl w_1603 ?_
    obtain ⟨q3, g_q3, hf⟩ := bind_s hf
    refine vv_callS 17 (st := []) (As := [.long ((x2).toInt64), .long (1 : Int64), .long (52 : Int64)]) (stk2 := [.int q3]) (cl2 := 0) (sl2 := 0) dX9_rounds_14 rfl lk_RX9_83 w_1206 ⟨(Nat.le_of_ble_eq_true rfl), (Nat.le_of_ble_eq_true rfl)⟩ rfl rfl ⟨(Nat.le_of_ble_eq_true rfl), (Nat.le_of_ble_eq_true rfl)⟩ rfl (Nat.le_of_ble_eq_true rfl) rfl rfl rfl rfl (c_X9_in g_q3) ?_
    refine vv_if_ne 23 20 dX9_rounds_17 rfl (by decide) (fun c4 => ?_) (fun c4 => ?_)
    · rw [if_pos c4] at hf
      refine vv_bipush 22 (v := (-2)) dX9_rounds_20 rfl (by decide) ?_
      obtain rfl := Option.some.inj hf
      exact vv_iret dX9_rounds_22 rfl
    · rw [if_neg c4] at hf
      refine vv_aload_n 24 dX9_rounds_23 rfl rfl ?_
      refine vv_iload_n 25 dX9_rounds_24 rfl rfl ?_
      obtain ⟨q5, g_q5, hf⟩ := bind_s hf
      refine vv_callV 28 (st := []) (As := [.int x1]) (stk2 := [.int q5.1]) (cl2 := 0) (sl2 := 0) dX9_rounds_25 rfl lk_RX9_294 w_1361 w_43 rfl t_a0 ⟨(Nat.le_of_ble_eq_true rfl), (Nat.le_of_ble_eq_true rfl)⟩ rfl rfl ⟨(Nat.le_of_ble_eq_true rfl), (Nat.le_of_ble_eq_true rfl)⟩ rfl (Nat.le_of_ble_eq_true rfl) rfl rfl rfl rfl (c_X9_hasBroken t_a0 g_q5) ?_
      refine vv_if_eq 34 31 dX9_rounds_28 rfl (by decide) (fun c6 => ?_) (fun c6 => ?_)
      · rw [if_pos c6] at hf
        refine vv_aload_n 35 dX9_rounds_34 rfl rfl ?_
        refine vv_iload_n 36 dX9_rounds_35 rfl rfl ?_
        obtain ⟨q7, g_q7, hf⟩ := bind_s hf
        refine vv_callV 39 (st := []) (As := [.int x1]) (stk2 := []) (cl2 := 0) (sl2 := 0) dX9_rounds_36 rfl lk_RX9_297 w_1369 w_45 rfl t_a0 ⟨(Nat.le_of_ble_eq_true rfl), (Nat.le_of_ble_eq_true rfl)⟩ rfl rfl ⟨(Nat.le_of_ble_eq_true rfl), (Nat.le_of_ble_eq_true rfl)⟩ rfl (Nat.le_of_ble_eq_true rfl) rfl rfl rfl rfl (c_X9_gathers t_a0 g_q7) ?_
        refine vv_aload_n 40 dX9_rounds_39 rfl rfl ?_
        refine vv_iload_n 41 dX9_rounds_40 rfl rfl ?_
        obtain ⟨q8, g_q8, hf⟩ := bind_s hf
        refine vv_callV 44 (st := []) (As := [.int x2]) (stk2 := [.int q8.1]) (cl2 := 0) (sl2 := 0) dX9_rounds_41 rfl lk_RX9_398 w_1606 w_61 rfl t_a0 ⟨(Nat.le_of_ble_eq_true rfl), (Nat.le_of_ble_eq_true rfl)⟩ rfl rfl ⟨(Nat.le_of_ble_eq_true rfl), (Nat.le_of_ble_eq_true rfl)⟩ rfl (Nat.le_of_ble_eq_true rfl) rfl rfl rfl rfl (c_X9_lessens t_a0 g_q8) ?_
        obtain ⟨z9, e_z9, hf⟩ := bd_s hf
        refine vv_istore_nE (q := 45) (v := z9) (L' := [some (.ref a0), some (.int x1), some (.int x2), some (.int z9)]) e_z9 dX9_rounds_44 rfl (Nat.le_of_ble_eq_true rfl) rfl ?_
        refine vv_aload_n 46 dX9_rounds_45 rfl rfl ?_
        refine vv_iload_n 47 dX9_rounds_46 rfl rfl ?_
        refine vv_aload_n 48 dX9_rounds_47 rfl rfl ?_
        obtain ⟨b10, g_b10, hf⟩ := bind_s hf
        have t_b10 := (ldA_spec g_b10).2
        refine gf_RX9_7 51 dX9_rounds_48 rfl t_a0 (ldA_spec g_b10).1 ?_
        refine vv_iload_n 52 dX9_rounds_51 rfl rfl ?_
        obtain ⟨r11, g_r11, hf⟩ := bind_s hf
        refine vv_iald 53 dX9_rounds_52 rfl t_b10 g_r11 ?_
        obtain ⟨q12, g_q12, hf⟩ := bind_s hf
        refine vv_callV 56 (st := []) (As := [.int x1, .int r11]) (stk2 := [.int q12.1]) (cl2 := 0) (sl2 := 0) dX9_rounds_53 rfl lk_RX9_300 w_1377 w_47 rfl t_a0 ⟨(Nat.le_of_ble_eq_true rfl), (Nat.le_of_ble_eq_true rfl)⟩ rfl rfl ⟨(Nat.le_of_ble_eq_true rfl), (Nat.le_of_ble_eq_true rfl)⟩ rfl (Nat.le_of_ble_eq_true rfl) rfl rfl rfl rfl (c_X9_lays t_a0 g_q12) ?_
        refine vv_bipush 58 (v := (-4)) dX9_rounds_56 rfl (by decide) ?_
        refine vv_icmp_ne 66 61 dX9_rounds_58 rfl (by decide) (fun c13 => ?_) (fun c13 => ?_)
        · rw [if_pos c13] at hf
          refine vv_bipush 63 (v := (-4)) dX9_rounds_61 rfl (by decide) ?_
          refine vv_goto 67 dX9_rounds_63 (by decide) ?_
          obtain rfl := Option.some.inj hf
          exact vv_iret dX9_rounds_67 rfl
        · rw [if_neg c13] at hf
          refine vv_iload_n 67 dX9_rounds_66 rfl rfl ?_
          obtain rfl := Option.some.inj hf
          exact vv_iret dX9_rounds_67 rfl
      · rw [if_neg c6] at hf
        refine vv_bipush 33 (v := (-6)) dX9_rounds_31 rfl (by decide) ?_
        obtain rfl := Option.some.inj hf
        exact vv_iret dX9_rounds_33 rfl

theorem c_X9_rounds {w : Wo} {K : Kn} {a0 : Nat} {x1 : Int32} {x2 : Int32} {q : (Int32 × Mem)} {m : Mem} (t_a0 : K a0 = some (.inl 8)) (hf : F_X9_rounds K m a0 x1 x2 = some q) : MM w K K yX9_rounds cX9_rounds 4 (some .int) rm_X9_rounds [.ref a0, .int x1, .int x2] m (some (.int q.1)) q.2 0 0 :=
  mm_of (ini := false) (n := 1) (plainFor_of_name (by decide)) rfl (fun h => by first | rfl | cases h) (Nat.le_of_ble_eq_true rfl) rfl (v_X9_rounds_0 t_a0 hf)

set_option maxHeartbeats 4000000 in
theorem v_X9_rounded_0 {w : Wo} {K : Kn} {a0 : Nat} {x1 : Int32} {x2 : Int32} {q : (Int32 × Mem)} (t_a0 : K a0 = some (.inl 8)) {m : Mem} (hf : f_X9_rounded K a0 x1 x2 m = some q) : VV w RX9 cX9_rounded 3 (some .int) rm_X9_rounded false (QM w K (some (.int q.1)) q.2 0 0) K 0 [some (.ref a0), some (.int x1), some (.int x2)] [] 0 0 m := by
  unfold f_X9_rounded at hf
  refine vv_aload_n 1 dX9_rounded_0 rfl rfl ?_
  refine vv_iload_n 2 dX9_rounded_1 rfl rfl ?_
  obtain ⟨q1, g_q1, hf⟩ := bind_s hf
  refine vv_callV 5 (st := []) (As := [.int x1]) (stk2 := [.int q1]) (cl2 := 0) (sl2 := 0) dX9_rounded_2 rfl lk_RX9_87 w_1220 w_21 rfl t_a0 ⟨(Nat.le_of_ble_eq_true rfl), (Nat.le_of_ble_eq_true rfl)⟩ rfl rfl ⟨(Nat.le_of_ble_eq_true rfl), (Nat.le_of_ble_eq_true rfl)⟩ rfl (Nat.le_of_ble_eq_true rfl) rfl rfl rfl rfl (c_X9_isSeries t_a0 g_q1) ?_
  refine vv_if_eq 20 8 dX9_rounded_5 rfl (by decide) (fun c2 => ?_) (fun c2 => ?_)
  · rw [if_pos c2] at hf
    refine vv_bipush 22 (v := (-2)) dX9_rounded_20 rfl (by decide) ?_
    obtain rfl := Option.some.inj hf
    exact vv_iret dX9_rounded_22 rfl
  · rw [if_neg c2] at hf
    refine vv_iload_n 9 dX9_rounded_8 rfl rfl ?_
    refine vv_i2l 10 dX9_rounded_9 rfl ?_
    refine vv_lconst 11 (v := 1) dX9_rounded_10 rfl (by decide) ?_
    refine vv_ldc2 14 (v := 52) dX9_rounded_11 rfl w_1603 ?_
    obtain ⟨q3, g_q3, hf⟩ := bind_s hf
    refine vv_callS 17 (st := []) (As := [.long ((x2).toInt64), .long (1 : Int64), .long (52 : Int64)]) (stk2 := [.int q3]) (cl2 := 0) (sl2 := 0) dX9_rounded_14 rfl lk_RX9_83 w_1206 ⟨(Nat.le_of_ble_eq_true rfl), (Nat.le_of_ble_eq_true rfl)⟩ rfl rfl ⟨(Nat.le_of_ble_eq_true rfl), (Nat.le_of_ble_eq_true rfl)⟩ rfl (Nat.le_of_ble_eq_true rfl) rfl rfl rfl rfl (c_X9_in g_q3) ?_
    refine vv_if_ne 23 20 dX9_rounded_17 rfl (by decide) (fun c4 => ?_) (fun c4 => ?_)
    · rw [if_pos c4] at hf
      refine vv_bipush 22 (v := (-2)) dX9_rounded_20 rfl (by decide) ?_
      obtain rfl := Option.some.inj hf
      exact vv_iret dX9_rounded_22 rfl
    · rw [if_neg c4] at hf
      refine vv_aload_n 24 dX9_rounded_23 rfl rfl ?_
      refine vv_iload_n 25 dX9_rounded_24 rfl rfl ?_
      obtain ⟨q5, g_q5, hf⟩ := bind_s hf
      refine vv_callV 28 (st := []) (As := [.int x1]) (stk2 := [.int q5.1]) (cl2 := 0) (sl2 := 0) dX9_rounded_25 rfl lk_RX9_294 w_1361 w_43 rfl t_a0 ⟨(Nat.le_of_ble_eq_true rfl), (Nat.le_of_ble_eq_true rfl)⟩ rfl rfl ⟨(Nat.le_of_ble_eq_true rfl), (Nat.le_of_ble_eq_true rfl)⟩ rfl (Nat.le_of_ble_eq_true rfl) rfl rfl rfl rfl (c_X9_hasBroken t_a0 g_q5) ?_
      refine vv_if_eq 34 31 dX9_rounded_28 rfl (by decide) (fun c6 => ?_) (fun c6 => ?_)
      · rw [if_pos c6] at hf
        refine vv_aload_n 35 dX9_rounded_34 rfl rfl ?_
        refine vv_iload_n 36 dX9_rounded_35 rfl rfl ?_
        obtain ⟨q7, g_q7, hf⟩ := bind_s hf
        refine vv_callV 39 (st := []) (As := [.int x1]) (stk2 := []) (cl2 := 0) (sl2 := 0) dX9_rounded_36 rfl lk_RX9_297 w_1369 w_45 rfl t_a0 ⟨(Nat.le_of_ble_eq_true rfl), (Nat.le_of_ble_eq_true rfl)⟩ rfl rfl ⟨(Nat.le_of_ble_eq_true rfl), (Nat.le_of_ble_eq_true rfl)⟩ rfl (Nat.le_of_ble_eq_true rfl) rfl rfl rfl rfl (c_X9_gathers t_a0 g_q7) ?_
        refine vv_aload_n 40 dX9_rounded_39 rfl rfl ?_
        refine vv_iload_n 41 dX9_rounded_40 rfl rfl ?_
        obtain ⟨q8, g_q8, hf⟩ := bind_s hf
        refine vv_callV 44 (st := []) (As := [.int x2]) (stk2 := [.int q8.1]) (cl2 := 0) (sl2 := 0) dX9_rounded_41 rfl lk_RX9_398 w_1606 w_61 rfl t_a0 ⟨(Nat.le_of_ble_eq_true rfl), (Nat.le_of_ble_eq_true rfl)⟩ rfl rfl ⟨(Nat.le_of_ble_eq_true rfl), (Nat.le_of_ble_eq_true rfl)⟩ rfl (Nat.le_of_ble_eq_true rfl) rfl rfl rfl rfl (c_X9_lessens t_a0 g_q8) ?_
        refine vv_pop 45 dX9_rounded_44 rfl rfl ?_
        refine vv_aload_n 46 dX9_rounded_45 rfl rfl ?_
        refine vv_aload_n 47 dX9_rounded_46 rfl rfl ?_
        obtain ⟨b9, g_b9, hf⟩ := bind_s hf
        have t_b9 := (ldA_spec g_b9).2
        refine gf_RX9_7 50 dX9_rounded_47 rfl t_a0 (ldA_spec g_b9).1 ?_
        refine vv_iload_n 51 dX9_rounded_50 rfl rfl ?_
        obtain ⟨r10, g_r10, hf⟩ := bind_s hf
        refine vv_iald 52 dX9_rounded_51 rfl t_b9 g_r10 ?_
        obtain ⟨q11, g_q11, hf⟩ := bind_s hf
        refine vv_callV 55 (st := []) (As := [.int r10]) (stk2 := [.int q11.1]) (cl2 := 0) (sl2 := 0) dX9_rounded_52 rfl lk_RX9_272 w_1381 w_48 rfl t_a0 ⟨(Nat.le_of_ble_eq_true rfl), (Nat.le_of_ble_eq_true rfl)⟩ rfl rfl ⟨(Nat.le_of_ble_eq_true rfl), (Nat.le_of_ble_eq_true rfl)⟩ rfl (Nat.le_of_ble_eq_true rfl) rfl rfl rfl rfl (c_X9_packs t_a0 g_q11) ?_
        refine vv_if_eq 66 58 dX9_rounded_55 rfl (by decide) (fun c12 => ?_) (fun c12 => ?_)
        · rw [if_pos c12] at hf
          refine vv_bipush 68 (v := (-4)) dX9_rounded_66 rfl (by decide) ?_
          obtain rfl := Option.some.inj hf
          exact vv_iret dX9_rounded_68 rfl
        · rw [if_neg c12] at hf
          refine vv_aload_n 59 dX9_rounded_58 rfl rfl ?_
          refine vv_iconst 60 (v := 4) dX9_rounded_59 rfl (by decide) ?_
          obtain ⟨q13, g_q13, hf⟩ := bind_s hf
          refine vv_callV 63 (st := []) (As := [.int (4 : Int32)]) (stk2 := [.int q13]) (cl2 := 0) (sl2 := 0) dX9_rounded_60 rfl lk_RX9_303 w_1394 w_50 rfl t_a0 ⟨(Nat.le_of_ble_eq_true rfl), (Nat.le_of_ble_eq_true rfl)⟩ rfl rfl ⟨(Nat.le_of_ble_eq_true rfl), (Nat.le_of_ble_eq_true rfl)⟩ rfl (Nat.le_of_ble_eq_true rfl) rfl rfl rfl rfl (c_X9_bytesOf t_a0 g_q13) ?_
          refine vv_goto 68 dX9_rounded_63 (by decide) ?_
          obtain rfl := Option.some.inj hf
          exact vv_iret dX9_rounded_68 rfl
      · rw [if_neg c6] at hf
        refine vv_bipush 33 (v := (-6)) dX9_rounded_31 rfl (by decide) ?_
        obtain rfl := Option.some.inj hf
        exact vv_iret dX9_rounded_33 rfl

theorem c_X9_rounded {w : Wo} {K : Kn} {a0 : Nat} {x1 : Int32} {x2 : Int32} {q : (Int32 × Mem)} {m : Mem} (t_a0 : K a0 = some (.inl 8)) (hf : F_X9_rounded K m a0 x1 x2 = some q) : MM w K K yX9_rounded cX9_rounded 3 (some .int) rm_X9_rounded [.ref a0, .int x1, .int x2] m (some (.int q.1)) q.2 0 0 :=
  mm_of (ini := false) (n := 0) (plainFor_of_name (by decide)) rfl (fun h => by first | rfl | cases h) (Nat.le_of_ble_eq_true rfl) rfl (v_X9_rounded_0 t_a0 hf)

set_option maxHeartbeats 4000000 in
theorem v_X9_dearest_104 {w : Wo} {K : Kn} {a0 : Nat} {x1 : Int32} {x2 : Int32} {q : (Int32 × Mem)} (t_a0 : K a0 = some (.inl 8)) (k29 : Mem → Int32 → Int32 → Int32 → Option (Int32 × Mem)) (hk29 : ∀ (m : Mem) (x3 : Int32) (x4 : Int32) (x5 : Int32), k29 m x3 x4 x5 = some q → VV w RX9 cX9_dearest 7 (some .int) rm_X9_dearest false (QM w K (some (.int q.1)) q.2 0 0) K 29 [some (.ref a0), some (.int x1), some (.int x2), some (.int x3), some (.int x4), some (.int x5), none] [] 0 0 m) {m : Mem} {x3 : Int32} {x4 : Int32} {x5 : Int32} (hf : f_X9_dearest_104 K a0 x1 x2 k29 m x3 x4 x5 = some q) : VV w RX9 cX9_dearest 7 (some .int) rm_X9_dearest false (QM w K (some (.int q.1)) q.2 0 0) K 104 [some (.ref a0), some (.int x1), some (.int x2), some (.int x3), some (.int x4), some (.int x5), none] [] 0 0 m := by
  unfold f_X9_dearest_104 at hf
  obtain ⟨z1, e_z1, hf⟩ := bd_s hf
  refine vv_iincE (q := 107) (v := z1) (c := 1) (L' := [some (.ref a0), some (.int x1), some (.int x2), some (.int x3), some (.int x4), some (.int z1), none]) e_z1 dX9_dearest_104 rfl rfl (by decide) (Nat.le_of_ble_eq_true rfl) rfl ?_
  refine vv_goto 29 dX9_dearest_107 (by decide) ?_
  exact hk29 _ _ _ _ hf

set_option maxHeartbeats 4000000 in
theorem v_X9_dearest_98 {w : Wo} {K : Kn} {a0 : Nat} {x1 : Int32} {x2 : Int32} {q : (Int32 × Mem)} (t_a0 : K a0 = some (.inl 8)) (k60 : Mem → Int32 → Int32 → Int32 → Int32 → Option (Int32 × Mem)) (hk60 : ∀ (m : Mem) (x3 : Int32) (x4 : Int32) (x5 : Int32) (x6 : Int32), k60 m x3 x4 x5 x6 = some q → VV w RX9 cX9_dearest 7 (some .int) rm_X9_dearest false (QM w K (some (.int q.1)) q.2 0 0) K 60 [some (.ref a0), some (.int x1), some (.int x2), some (.int x3), some (.int x4), some (.int x5), some (.int x6)] [] 0 0 m) {m : Mem} {x3 : Int32} {x4 : Int32} {x5 : Int32} {x6 : Int32} (hf : f_X9_dearest_98 K a0 x1 x2 k60 m x3 x4 x5 x6 = some q) : VV w RX9 cX9_dearest 7 (some .int) rm_X9_dearest false (QM w K (some (.int q.1)) q.2 0 0) K 98 [some (.ref a0), some (.int x1), some (.int x2), some (.int x3), some (.int x4), some (.int x5), some (.int x6)] [] 0 0 m := by
  unfold f_X9_dearest_98 at hf
  obtain ⟨z1, e_z1, hf⟩ := bd_s hf
  refine vv_iincE (q := 101) (v := z1) (c := 1) (L' := [some (.ref a0), some (.int x1), some (.int x2), some (.int x3), some (.int x4), some (.int x5), some (.int z1)]) e_z1 dX9_dearest_98 rfl rfl (by decide) (Nat.le_of_ble_eq_true rfl) rfl ?_
  refine vv_goto 60 dX9_dearest_101 (by decide) ?_
  exact hk60 _ _ _ _ _ hf

set_option maxHeartbeats 4000000 in
theorem v_X9_dearest_60B {w : Wo} {K : Kn} {a0 : Nat} {x1 : Int32} {x2 : Int32} {q : (Int32 × Mem)} (t_a0 : K a0 = some (.inl 8)) (k29 : Mem → Int32 → Int32 → Int32 → Option (Int32 × Mem)) (hk29 : ∀ (m : Mem) (x3 : Int32) (x4 : Int32) (x5 : Int32), k29 m x3 x4 x5 = some q → VV w RX9 cX9_dearest 7 (some .int) rm_X9_dearest false (QM w K (some (.int q.1)) q.2 0 0) K 29 [some (.ref a0), some (.int x1), some (.int x2), some (.int x3), some (.int x4), some (.int x5), none] [] 0 0 m) (k60 : Mem → Int32 → Int32 → Int32 → Int32 → Option (Int32 × Mem)) (hk60 : ∀ (m : Mem) (x3 : Int32) (x4 : Int32) (x5 : Int32) (x6 : Int32), k60 m x3 x4 x5 x6 = some q → VV w RX9 cX9_dearest 7 (some .int) rm_X9_dearest false (QM w K (some (.int q.1)) q.2 0 0) K 60 [some (.ref a0), some (.int x1), some (.int x2), some (.int x3), some (.int x4), some (.int x5), some (.int x6)] [] 0 0 m) {m : Mem} {x3 : Int32} {x4 : Int32} {x5 : Int32} {x6 : Int32} (hf : f_X9_dearest_60B K a0 x1 x2 k29 k60 m x3 x4 x5 x6 = some q) : VV w RX9 cX9_dearest 7 (some .int) rm_X9_dearest false (QM w K (some (.int q.1)) q.2 0 0) K 60 [some (.ref a0), some (.int x1), some (.int x2), some (.int x3), some (.int x4), some (.int x5), some (.int x6)] [] 0 0 m := by
  unfold f_X9_dearest_60B at hf
  refine vv_iload 62 dX9_dearest_60 rfl rfl ?_
  refine vv_aload_n 63 dX9_dearest_62 rfl rfl ?_
  refine gf_RX9_223 66 dX9_dearest_63 rfl t_a0 ?_
  refine vv_icmp_ge 104 69 dX9_dearest_66 rfl (by decide) (fun c1 => ?_) (fun c1 => ?_)
  · rw [if_pos c1] at hf
    exact VV.lle (v_X9_dearest_104 t_a0 k29 hk29 hf) (lle_s (lle_s (lle_s (lle_s (lle_s (lle_s (lle_n lle_nil)))))))
  · rw [if_neg c1] at hf
    refine vv_aload_n 70 dX9_dearest_69 rfl rfl ?_
    obtain ⟨b2, g_b2, hf⟩ := bind_s hf
    have t_b2 := (ldA_spec g_b2).2
    refine gf_RX9_57 73 dX9_dearest_70 rfl t_a0 (ldA_spec g_b2).1 ?_
    refine vv_iload 75 dX9_dearest_73 rfl rfl ?_
    obtain ⟨r3, g_r3, hf⟩ := bind_s hf
    refine vv_iald 76 dX9_dearest_75 rfl t_b2 g_r3 ?_
    refine vv_iload_n 77 dX9_dearest_76 rfl rfl ?_
    refine vv_icmp_le 98 80 dX9_dearest_77 rfl (by decide) (fun c4 => ?_) (fun c4 => ?_)
    · rw [if_pos c4] at hf
      exact v_X9_dearest_98 t_a0 k60 hk60 hf
    · rw [if_neg c4] at hf
      refine vv_aload_n 81 dX9_dearest_80 rfl rfl ?_
      obtain ⟨b5, g_b5, hf⟩ := bind_s hf
      have t_b5 := (ldA_spec g_b5).2
      refine gf_RX9_57 84 dX9_dearest_81 rfl t_a0 (ldA_spec g_b5).1 ?_
      refine vv_iload 86 dX9_dearest_84 rfl rfl ?_
      obtain ⟨r6, g_r6, hf⟩ := bind_s hf
      refine vv_iald 87 dX9_dearest_86 rfl t_b5 g_r6 ?_
      refine vv_istore_n 88 (L' := [some (.ref a0), some (.int x1), some (.int x2), some (.int r6), some (.int x4), some (.int x5), some (.int x6)]) dX9_dearest_87 rfl (Nat.le_of_ble_eq_true rfl) rfl ?_
      refine vv_aload_n 89 dX9_dearest_88 rfl rfl ?_
      obtain ⟨b7, g_b7, hf⟩ := bind_s hf
      have t_b7 := (ldA_spec g_b7).2
      refine gf_RX9_51 92 dX9_dearest_89 rfl t_a0 (ldA_spec g_b7).1 ?_
      refine vv_iload 94 dX9_dearest_92 rfl rfl ?_
      obtain ⟨r8, g_r8, hf⟩ := bind_s hf
      refine vv_lald 95 dX9_dearest_94 rfl t_b7 g_r8 ?_
      refine vv_l2i 96 dX9_dearest_95 rfl ?_
      obtain ⟨z9, e_z9, hf⟩ := bd_s hf
      refine vv_istoreE (q := 98) (v := z9) (L' := [some (.ref a0), some (.int x1), some (.int x2), some (.int r6), some (.int z9), some (.int x5), some (.int x6)]) e_z9 dX9_dearest_96 rfl (Nat.le_of_ble_eq_true rfl) rfl ?_
      exact v_X9_dearest_98 t_a0 k60 hk60 hf

theorem v_X9_dearest_60 {w : Wo} {K : Kn} {a0 : Nat} {x1 : Int32} {x2 : Int32} {q : (Int32 × Mem)} (t_a0 : K a0 = some (.inl 8)) (k29 : Mem → Int32 → Int32 → Int32 → Option (Int32 × Mem)) (hk29 : ∀ (m : Mem) (x3 : Int32) (x4 : Int32) (x5 : Int32), k29 m x3 x4 x5 = some q → VV w RX9 cX9_dearest 7 (some .int) rm_X9_dearest false (QM w K (some (.int q.1)) q.2 0 0) K 29 [some (.ref a0), some (.int x1), some (.int x2), some (.int x3), some (.int x4), some (.int x5), none] [] 0 0 m) : ∀ (n : Nat) (m : Mem) (x3 : Int32) (x4 : Int32) (x5 : Int32) (x6 : Int32), f_X9_dearest_60 K a0 x1 x2 k29 n m x3 x4 x5 x6 = some q → VV w RX9 cX9_dearest 7 (some .int) rm_X9_dearest false (QM w K (some (.int q.1)) q.2 0 0) K 60 [some (.ref a0), some (.int x1), some (.int x2), some (.int x3), some (.int x4), some (.int x5), some (.int x6)] [] 0 0 m := by
  intro n
  induction n with
  | zero => intro m x3 x4 x5 x6 hf; cases hf
  | succ n ih => intro m x3 x4 x5 x6 hf; exact v_X9_dearest_60B (a0 := a0) (x1 := x1) (x2 := x2) t_a0 k29 hk29 (f_X9_dearest_60 K a0 x1 x2 k29 n) ih hf

set_option maxHeartbeats 4000000 in
theorem v_X9_dearest_29B {w : Wo} {K : Kn} {a0 : Nat} {x1 : Int32} {x2 : Int32} {q : (Int32 × Mem)} (t_a0 : K a0 = some (.inl 8)) (k29 : Mem → Int32 → Int32 → Int32 → Option (Int32 × Mem)) (hk29 : ∀ (m : Mem) (x3 : Int32) (x4 : Int32) (x5 : Int32), k29 m x3 x4 x5 = some q → VV w RX9 cX9_dearest 7 (some .int) rm_X9_dearest false (QM w K (some (.int q.1)) q.2 0 0) K 29 [some (.ref a0), some (.int x1), some (.int x2), some (.int x3), some (.int x4), some (.int x5), none] [] 0 0 m) {m : Mem} {x3 : Int32} {x4 : Int32} {x5 : Int32} (hf : f_X9_dearest_29B K a0 x1 x2 k29 m x3 x4 x5 = some q) : VV w RX9 cX9_dearest 7 (some .int) rm_X9_dearest false (QM w K (some (.int q.1)) q.2 0 0) K 29 [some (.ref a0), some (.int x1), some (.int x2), some (.int x3), some (.int x4), some (.int x5), none] [] 0 0 m := by
  unfold f_X9_dearest_29B at hf
  refine vv_iload 31 dX9_dearest_29 rfl rfl ?_
  refine vv_aload_n 32 dX9_dearest_31 rfl rfl ?_
  obtain ⟨b1, g_b1, hf⟩ := bind_s hf
  have t_b1 := (ldA_spec g_b1).2
  refine gf_RX9_16 35 dX9_dearest_32 rfl t_a0 (ldA_spec g_b1).1 ?_
  refine vv_iload_n 36 dX9_dearest_35 rfl rfl ?_
  obtain ⟨r2, g_r2, hf⟩ := bind_s hf
  refine vv_iald 37 dX9_dearest_36 rfl t_b1 g_r2 ?_
  refine vv_icmp_ge 110 40 dX9_dearest_37 rfl (by decide) (fun c3 => ?_) (fun c3 => ?_)
  · rw [if_pos c3] at hf
    refine vv_iload 112 dX9_dearest_110 rfl rfl ?_
    refine vv_iconst 113 (v := (-1)) dX9_dearest_112 rfl (by decide) ?_
    refine vv_icmp_ne 120 116 dX9_dearest_113 rfl (by decide) (fun c4 => ?_) (fun c4 => ?_)
    · rw [if_pos c4] at hf
      refine vv_iconst 117 (v := (-1)) dX9_dearest_116 rfl (by decide) ?_
      refine vv_goto 130 dX9_dearest_117 (by decide) ?_
      obtain rfl := Option.some.inj hf
      exact vv_iret dX9_dearest_130 rfl
    · rw [if_neg c4] at hf
      refine vv_iload_n 121 dX9_dearest_120 rfl rfl ?_
      refine vv_if_ne 129 124 dX9_dearest_121 rfl (by decide) (fun c5 => ?_) (fun c5 => ?_)
      · rw [if_pos c5] at hf
        refine vv_iload 126 dX9_dearest_124 rfl rfl ?_
        refine vv_goto 130 dX9_dearest_126 (by decide) ?_
        obtain rfl := Option.some.inj hf
        exact vv_iret dX9_dearest_130 rfl
      · rw [if_neg c5] at hf
        refine vv_iload_n 130 dX9_dearest_129 rfl rfl ?_
        obtain rfl := Option.some.inj hf
        exact vv_iret dX9_dearest_130 rfl
  · rw [if_neg c3] at hf
    refine vv_aload_n 41 dX9_dearest_40 rfl rfl ?_
    refine vv_bipush 43 (v := 16) dX9_dearest_41 rfl (by decide) ?_
    refine vv_iload_n 44 dX9_dearest_43 rfl rfl ?_
    refine vv_imul 45 dX9_dearest_44 rfl ?_
    refine vv_iload 47 dX9_dearest_45 rfl rfl ?_
    refine vv_iadd 48 dX9_dearest_47 rfl ?_
    obtain ⟨q6, g_q6, hf⟩ := bind_s hf
    refine vv_callV 51 (st := []) (As := [.int (((16 : Int32) * x1) + x5)]) (stk2 := [.int q6.1]) (cl2 := 0) (sl2 := 0) dX9_dearest_48 rfl lk_RX9_245 w_1365 w_44 rfl t_a0 ⟨(Nat.le_of_ble_eq_true rfl), (Nat.le_of_ble_eq_true rfl)⟩ rfl rfl ⟨(Nat.le_of_ble_eq_true rfl), (Nat.le_of_ble_eq_true rfl)⟩ rfl (Nat.le_of_ble_eq_true rfl) rfl rfl rfl rfl (c_X9_isBroken t_a0 g_q6) ?_
    refine vv_if_eq 57 54 dX9_dearest_51 rfl (by decide) (fun c7 => ?_) (fun c7 => ?_)
    · rw [if_pos c7] at hf
      refine vv_iconst 58 (v := 1) dX9_dearest_57 rfl (by decide) ?_
      refine vv_istore 60 (L' := [some (.ref a0), some (.int x1), some (.int x2), some (.int x3), some (.int x4), some (.int x5), some (.int (1 : Int32))]) dX9_dearest_58 rfl (Nat.le_of_ble_eq_true rfl) rfl ?_
      exact v_X9_dearest_60 t_a0 k29 hk29 FU _ _ _ _ _ hf
    · rw [if_neg c7] at hf
      refine vv_goto 104 dX9_dearest_54 (by decide) ?_
      exact v_X9_dearest_104 t_a0 k29 hk29 hf

theorem v_X9_dearest_29 {w : Wo} {K : Kn} {a0 : Nat} {x1 : Int32} {x2 : Int32} {q : (Int32 × Mem)} (t_a0 : K a0 = some (.inl 8)) : ∀ (n : Nat) (m : Mem) (x3 : Int32) (x4 : Int32) (x5 : Int32), f_X9_dearest_29 K a0 x1 x2 n m x3 x4 x5 = some q → VV w RX9 cX9_dearest 7 (some .int) rm_X9_dearest false (QM w K (some (.int q.1)) q.2 0 0) K 29 [some (.ref a0), some (.int x1), some (.int x2), some (.int x3), some (.int x4), some (.int x5), none] [] 0 0 m := by
  intro n
  induction n with
  | zero => intro m x3 x4 x5 hf; cases hf
  | succ n ih => intro m x3 x4 x5 hf; exact v_X9_dearest_29B (a0 := a0) (x1 := x1) (x2 := x2) t_a0 (f_X9_dearest_29 K a0 x1 x2 n) ih hf

set_option maxHeartbeats 4000000 in
theorem v_X9_dearest_0 {w : Wo} {K : Kn} {a0 : Nat} {x1 : Int32} {x2 : Int32} {q : (Int32 × Mem)} (t_a0 : K a0 = some (.inl 8)) {m : Mem} (hf : f_X9_dearest K a0 x1 x2 m = some q) : VV w RX9 cX9_dearest 7 (some .int) rm_X9_dearest false (QM w K (some (.int q.1)) q.2 0 0) K 0 [some (.ref a0), some (.int x1), some (.int x2), none, none, none, none] [] 0 0 m := by
  unfold f_X9_dearest at hf
  refine vv_aload_n 1 dX9_dearest_0 rfl rfl ?_
  refine vv_iload_n 2 dX9_dearest_1 rfl rfl ?_
  obtain ⟨q1, g_q1, hf⟩ := bind_s hf
  refine vv_callV 5 (st := []) (As := [.int x1]) (stk2 := [.int q1]) (cl2 := 0) (sl2 := 0) dX9_dearest_2 rfl lk_RX9_87 w_1220 w_21 rfl t_a0 ⟨(Nat.le_of_ble_eq_true rfl), (Nat.le_of_ble_eq_true rfl)⟩ rfl rfl ⟨(Nat.le_of_ble_eq_true rfl), (Nat.le_of_ble_eq_true rfl)⟩ rfl (Nat.le_of_ble_eq_true rfl) rfl rfl rfl rfl (c_X9_isSeries t_a0 g_q1) ?_
  refine vv_if_eq 18 8 dX9_dearest_5 rfl (by decide) (fun c2 => ?_) (fun c2 => ?_)
  · rw [if_pos c2] at hf
    refine vv_bipush 20 (v := (-2)) dX9_dearest_18 rfl (by decide) ?_
    obtain rfl := Option.some.inj hf
    exact vv_iret dX9_dearest_20 rfl
  · rw [if_neg c2] at hf
    refine vv_iload_n 9 dX9_dearest_8 rfl rfl ?_
    refine vv_i2l 10 dX9_dearest_9 rfl ?_
    refine vv_lconst 11 (v := 0) dX9_dearest_10 rfl (by decide) ?_
    refine vv_lconst 12 (v := 1) dX9_dearest_11 rfl (by decide) ?_
    obtain ⟨q3, g_q3, hf⟩ := bind_s hf
    refine vv_callS 15 (st := []) (As := [.long ((x2).toInt64), .long (0 : Int64), .long (1 : Int64)]) (stk2 := [.int q3]) (cl2 := 0) (sl2 := 0) dX9_dearest_12 rfl lk_RX9_83 w_1206 ⟨(Nat.le_of_ble_eq_true rfl), (Nat.le_of_ble_eq_true rfl)⟩ rfl rfl ⟨(Nat.le_of_ble_eq_true rfl), (Nat.le_of_ble_eq_true rfl)⟩ rfl (Nat.le_of_ble_eq_true rfl) rfl rfl rfl rfl (c_X9_in g_q3) ?_
    refine vv_if_ne 21 18 dX9_dearest_15 rfl (by decide) (fun c4 => ?_) (fun c4 => ?_)
    · rw [if_pos c4] at hf
      refine vv_bipush 20 (v := (-2)) dX9_dearest_18 rfl (by decide) ?_
      obtain rfl := Option.some.inj hf
      exact vv_iret dX9_dearest_20 rfl
    · rw [if_neg c4] at hf
      refine vv_iconst 22 (v := 0) dX9_dearest_21 rfl (by decide) ?_
      refine vv_istore_n 23 (L' := [some (.ref a0), some (.int x1), some (.int x2), some (.int (0 : Int32)), none, none, none]) dX9_dearest_22 rfl (Nat.le_of_ble_eq_true rfl) rfl ?_
      refine vv_iconst 24 (v := (-1)) dX9_dearest_23 rfl (by decide) ?_
      refine vv_istore 26 (L' := [some (.ref a0), some (.int x1), some (.int x2), some (.int (0 : Int32)), some (.int (-1 : Int32)), none, none]) dX9_dearest_24 rfl (Nat.le_of_ble_eq_true rfl) rfl ?_
      refine vv_iconst 27 (v := 0) dX9_dearest_26 rfl (by decide) ?_
      refine vv_istore 29 (L' := [some (.ref a0), some (.int x1), some (.int x2), some (.int (0 : Int32)), some (.int (-1 : Int32)), some (.int (0 : Int32)), none]) dX9_dearest_27 rfl (Nat.le_of_ble_eq_true rfl) rfl ?_
      exact v_X9_dearest_29 t_a0 FU _ _ _ _ hf

theorem c_X9_dearest {w : Wo} {K : Kn} {a0 : Nat} {x1 : Int32} {x2 : Int32} {q : (Int32 × Mem)} {m : Mem} (t_a0 : K a0 = some (.inl 8)) (hf : F_X9_dearest K m a0 x1 x2 = some q) : MM w K K yX9_dearest cX9_dearest 7 (some .int) rm_X9_dearest [.ref a0, .int x1, .int x2] m (some (.int q.1)) q.2 0 0 :=
  mm_of (ini := false) (n := 4) (plainFor_of_name (by decide)) rfl (fun h => by first | rfl | cases h) (Nat.le_of_ble_eq_true rfl) rfl (v_X9_dearest_0 t_a0 hf)

set_option maxHeartbeats 4000000 in
theorem v_X9_where_0 {w : Wo} {K : Kn} {a0 : Nat} {x1 : Int32} {x2 : Int32} {q : (Int32 × Mem)} (t_a0 : K a0 = some (.inl 8)) {m : Mem} (hf : f_X9_where K a0 x1 x2 m = some q) : VV w RX9 cX9_where 4 (some .int) rm_X9_where false (QM w K (some (.int q.1)) q.2 0 0) K 0 [some (.ref a0), some (.int x1), some (.int x2), none] [] 0 0 m := by
  unfold f_X9_where at hf
  refine vv_aload_n 1 dX9_where_0 rfl rfl ?_
  refine vv_iload_n 2 dX9_where_1 rfl rfl ?_
  refine vv_iload_n 3 dX9_where_2 rfl rfl ?_
  obtain ⟨q1, g_q1, hf⟩ := bind_s hf
  refine vv_callV 6 (st := []) (As := [.int x1, .int x2]) (stk2 := [.int q1]) (cl2 := 0) (sl2 := 0) dX9_where_3 rfl lk_RX9_325 w_1460 w_54 rfl t_a0 ⟨(Nat.le_of_ble_eq_true rfl), (Nat.le_of_ble_eq_true rfl)⟩ rfl rfl ⟨(Nat.le_of_ble_eq_true rfl), (Nat.le_of_ble_eq_true rfl)⟩ rfl (Nat.le_of_ble_eq_true rfl) rfl rfl rfl rfl (c_X9_isAsked t_a0 g_q1) ?_
  refine vv_if_ne 12 9 dX9_where_6 rfl (by decide) (fun c2 => ?_) (fun c2 => ?_)
  · rw [if_pos c2] at hf
    refine vv_bipush 11 (v := (-2)) dX9_where_9 rfl (by decide) ?_
    obtain rfl := Option.some.inj hf
    exact vv_iret dX9_where_11 rfl
  · rw [if_neg c2] at hf
    refine vv_aload_n 13 dX9_where_12 rfl rfl ?_
    refine vv_iload_n 14 dX9_where_13 rfl rfl ?_
    obtain ⟨q3, g_q3, hf⟩ := bind_s hf
    refine vv_callV 17 (st := []) (As := [.int x1]) (stk2 := []) (cl2 := 0) (sl2 := 0) dX9_where_14 rfl lk_RX9_297 w_1369 w_45 rfl t_a0 ⟨(Nat.le_of_ble_eq_true rfl), (Nat.le_of_ble_eq_true rfl)⟩ rfl rfl ⟨(Nat.le_of_ble_eq_true rfl), (Nat.le_of_ble_eq_true rfl)⟩ rfl (Nat.le_of_ble_eq_true rfl) rfl rfl rfl rfl (c_X9_gathers t_a0 g_q3) ?_
    refine vv_aload_n 18 dX9_where_17 rfl rfl ?_
    refine vv_iload_n 19 dX9_where_18 rfl rfl ?_
    obtain ⟨q4, g_q4, hf⟩ := bind_s hf
    refine vv_callV 22 (st := []) (As := [.int x2]) (stk2 := [.int q4]) (cl2 := 0) (sl2 := 0) dX9_where_19 rfl lk_RX9_328 w_1464 w_55 rfl t_a0 ⟨(Nat.le_of_ble_eq_true rfl), (Nat.le_of_ble_eq_true rfl)⟩ rfl rfl ⟨(Nat.le_of_ble_eq_true rfl), (Nat.le_of_ble_eq_true rfl)⟩ rfl (Nat.le_of_ble_eq_true rfl) rfl rfl rfl rfl (c_X9_placeOf t_a0 g_q4) ?_
    refine vv_istore_n 23 (L' := [some (.ref a0), some (.int x1), some (.int x2), some (.int q4)]) dX9_where_22 rfl (Nat.le_of_ble_eq_true rfl) rfl ?_
    refine vv_iload_n 24 dX9_where_23 rfl rfl ?_
    refine vv_iconst 25 (v := (-1)) dX9_where_24 rfl (by decide) ?_
    refine vv_icmp_ne 32 28 dX9_where_25 rfl (by decide) (fun c5 => ?_) (fun c5 => ?_)
    · rw [if_pos c5] at hf
      refine vv_iconst 29 (v := (-1)) dX9_where_28 rfl (by decide) ?_
      refine vv_goto 38 dX9_where_29 (by decide) ?_
      obtain rfl := Option.some.inj hf
      exact vv_iret dX9_where_38 rfl
    · rw [if_neg c5] at hf
      refine vv_aload_n 33 dX9_where_32 rfl rfl ?_
      obtain ⟨b6, g_b6, hf⟩ := bind_s hf
      have t_b6 := (ldA_spec g_b6).2
      refine gf_RX9_72 36 dX9_where_33 rfl t_a0 (ldA_spec g_b6).1 ?_
      refine vv_iload_n 37 dX9_where_36 rfl rfl ?_
      obtain ⟨r7, g_r7, hf⟩ := bind_s hf
      refine vv_iald 38 dX9_where_37 rfl t_b6 g_r7 ?_
      obtain rfl := Option.some.inj hf
      exact vv_iret dX9_where_38 rfl

theorem c_X9_where {w : Wo} {K : Kn} {a0 : Nat} {x1 : Int32} {x2 : Int32} {q : (Int32 × Mem)} {m : Mem} (t_a0 : K a0 = some (.inl 8)) (hf : F_X9_where K m a0 x1 x2 = some q) : MM w K K yX9_where cX9_where 4 (some .int) rm_X9_where [.ref a0, .int x1, .int x2] m (some (.int q.1)) q.2 0 0 :=
  mm_of (ini := false) (n := 1) (plainFor_of_name (by decide)) rfl (fun h => by first | rfl | cases h) (Nat.le_of_ble_eq_true rfl) rfl (v_X9_where_0 t_a0 hf)

set_option maxHeartbeats 4000000 in
theorem v_X9_copy_0 {w : Wo} {K : Kn} {a0 : Nat} {x1 : Int32} {x2 : Int32} {q : (Int32 × Mem)} (t_a0 : K a0 = some (.inl 8)) {m : Mem} (hf : f_X9_copy K a0 x1 x2 m = some q) : VV w RX9 cX9_copy 3 (some .int) rm_X9_copy false (QM w K (some (.int q.1)) q.2 0 0) K 0 [some (.ref a0), some (.int x1), some (.int x2)] [] 0 0 m := by
  unfold f_X9_copy at hf
  refine vv_aload_n 1 dX9_copy_0 rfl rfl ?_
  refine vv_iload_n 2 dX9_copy_1 rfl rfl ?_
  obtain ⟨q1, g_q1, hf⟩ := bind_s hf
  refine vv_callV 5 (st := []) (As := [.int x1]) (stk2 := [.int q1]) (cl2 := 0) (sl2 := 0) dX9_copy_2 rfl lk_RX9_87 w_1220 w_21 rfl t_a0 ⟨(Nat.le_of_ble_eq_true rfl), (Nat.le_of_ble_eq_true rfl)⟩ rfl rfl ⟨(Nat.le_of_ble_eq_true rfl), (Nat.le_of_ble_eq_true rfl)⟩ rfl (Nat.le_of_ble_eq_true rfl) rfl rfl rfl rfl (c_X9_isSeries t_a0 g_q1) ?_
  refine vv_if_eq 20 8 dX9_copy_5 rfl (by decide) (fun c2 => ?_) (fun c2 => ?_)
  · rw [if_pos c2] at hf
    refine vv_bipush 22 (v := (-2)) dX9_copy_20 rfl (by decide) ?_
    obtain rfl := Option.some.inj hf
    exact vv_iret dX9_copy_22 rfl
  · rw [if_neg c2] at hf
    refine vv_iload_n 9 dX9_copy_8 rfl rfl ?_
    refine vv_i2l 10 dX9_copy_9 rfl ?_
    refine vv_lconst 11 (v := 0) dX9_copy_10 rfl (by decide) ?_
    refine vv_ldc2 14 (v := 3) dX9_copy_11 rfl w_1204 ?_
    obtain ⟨q3, g_q3, hf⟩ := bind_s hf
    refine vv_callS 17 (st := []) (As := [.long ((x2).toInt64), .long (0 : Int64), .long (3 : Int64)]) (stk2 := [.int q3]) (cl2 := 0) (sl2 := 0) dX9_copy_14 rfl lk_RX9_83 w_1206 ⟨(Nat.le_of_ble_eq_true rfl), (Nat.le_of_ble_eq_true rfl)⟩ rfl rfl ⟨(Nat.le_of_ble_eq_true rfl), (Nat.le_of_ble_eq_true rfl)⟩ rfl (Nat.le_of_ble_eq_true rfl) rfl rfl rfl rfl (c_X9_in g_q3) ?_
    refine vv_if_ne 23 20 dX9_copy_17 rfl (by decide) (fun c4 => ?_) (fun c4 => ?_)
    · rw [if_pos c4] at hf
      refine vv_bipush 22 (v := (-2)) dX9_copy_20 rfl (by decide) ?_
      obtain rfl := Option.some.inj hf
      exact vv_iret dX9_copy_22 rfl
    · rw [if_neg c4] at hf
      refine vv_aload_n 24 dX9_copy_23 rfl rfl ?_
      refine vv_iload_n 25 dX9_copy_24 rfl rfl ?_
      refine vv_iload_n 26 dX9_copy_25 rfl rfl ?_
      obtain ⟨q5, g_q5, hf⟩ := bind_s hf
      refine vv_callV 29 (st := []) (As := [.int x1, .int x2]) (stk2 := []) (cl2 := 0) (sl2 := 0) dX9_copy_26 rfl lk_RX9_275 w_1385 w_49 rfl t_a0 ⟨(Nat.le_of_ble_eq_true rfl), (Nat.le_of_ble_eq_true rfl)⟩ rfl rfl ⟨(Nat.le_of_ble_eq_true rfl), (Nat.le_of_ble_eq_true rfl)⟩ rfl (Nat.le_of_ble_eq_true rfl) rfl rfl rfl rfl (c_X9_copiesTo t_a0 g_q5) ?_
      refine vv_iconst 30 (v := 0) dX9_copy_29 rfl (by decide) ?_
      obtain rfl := Option.some.inj hf
      exact vv_iret dX9_copy_30 rfl

theorem c_X9_copy {w : Wo} {K : Kn} {a0 : Nat} {x1 : Int32} {x2 : Int32} {q : (Int32 × Mem)} {m : Mem} (t_a0 : K a0 = some (.inl 8)) (hf : F_X9_copy K m a0 x1 x2 = some q) : MM w K K yX9_copy cX9_copy 3 (some .int) rm_X9_copy [.ref a0, .int x1, .int x2] m (some (.int q.1)) q.2 0 0 :=
  mm_of (ini := false) (n := 0) (plainFor_of_name (by decide)) rfl (fun h => by first | rfl | cases h) (Nat.le_of_ble_eq_true rfl) rfl (v_X9_copy_0 t_a0 hf)

set_option maxHeartbeats 4000000 in
theorem v_X9_mendsOf_126 {w : Wo} {K : Kn} {a0 : Nat} {x1 : Int32} {x2 : Int32} {q : (Int32 × Mem)} (t_a0 : K a0 = some (.inl 8)) (k42 : Mem → Int32 → Int32 → Int32 → Int32 → Option (Int32 × Mem)) (hk42 : ∀ (m : Mem) (x3 : Int32) (x4 : Int32) (x5 : Int32) (x6 : Int32), k42 m x3 x4 x5 x6 = some q → VV w RX9 cX9_mendsOf 7 (some .int) rm_X9_mendsOf false (QM w K (some (.int q.1)) q.2 0 0) K 42 [some (.ref a0), some (.int x1), some (.int x2), some (.int x3), some (.int x4), some (.int x5), some (.int x6)] [] 0 0 m) {m : Mem} {x3 : Int32} {x4 : Int32} {x5 : Int32} {x6 : Int32} (hf : f_X9_mendsOf_126 K a0 x1 x2 k42 m x3 x4 x5 x6 = some q) : VV w RX9 cX9_mendsOf 7 (some .int) rm_X9_mendsOf false (QM w K (some (.int q.1)) q.2 0 0) K 126 [some (.ref a0), some (.int x1), some (.int x2), some (.int x3), some (.int x4), some (.int x5), some (.int x6)] [] 0 0 m := by
  unfold f_X9_mendsOf_126 at hf
  obtain ⟨z1, e_z1, hf⟩ := bd_s hf
  refine vv_iincE (q := 129) (v := z1) (c := 1) (L' := [some (.ref a0), some (.int x1), some (.int x2), some (.int x3), some (.int x4), some (.int x5), some (.int z1)]) e_z1 dX9_mendsOf_126 rfl rfl (by decide) (Nat.le_of_ble_eq_true rfl) rfl ?_
  refine vv_goto 42 dX9_mendsOf_129 (by decide) ?_
  exact hk42 _ _ _ _ _ hf

set_option maxHeartbeats 4000000 in
theorem v_X9_mendsOf_120 {w : Wo} {K : Kn} {a0 : Nat} {x1 : Int32} {x2 : Int32} {q : (Int32 × Mem)} (t_a0 : K a0 = some (.inl 8)) (k42 : Mem → Int32 → Int32 → Int32 → Int32 → Option (Int32 × Mem)) (hk42 : ∀ (m : Mem) (x3 : Int32) (x4 : Int32) (x5 : Int32) (x6 : Int32), k42 m x3 x4 x5 x6 = some q → VV w RX9 cX9_mendsOf 7 (some .int) rm_X9_mendsOf false (QM w K (some (.int q.1)) q.2 0 0) K 42 [some (.ref a0), some (.int x1), some (.int x2), some (.int x3), some (.int x4), some (.int x5), some (.int x6)] [] 0 0 m) {m : Mem} {x3 : Int32} {x4 : Int32} {x5 : Int32} {x6 : Int32} {sa0 : Nat} {s1 : Int32} (t_sa0 : K sa0 = some (.inl 8)) (hf : f_X9_mendsOf_120 K a0 x1 x2 k42 m x3 x4 x5 x6 sa0 s1 = some q) : VV w RX9 cX9_mendsOf 7 (some .int) rm_X9_mendsOf false (QM w K (some (.int q.1)) q.2 0 0) K 120 [some (.ref a0), some (.int x1), some (.int x2), some (.int x3), some (.int x4), some (.int x5), some (.int x6)] [.int s1, .ref sa0] 0 0 m := by
  unfold f_X9_mendsOf_120 at hf
  obtain ⟨m1, e_m1, hf⟩ := bd_s hf
  refine pf_RX9_314 123 dX9_mendsOf_120 rfl t_sa0 e_m1 ?_
  obtain ⟨z2, e_z2, hf⟩ := bd_s hf
  refine vv_iincE (q := 126) (v := z2) (c := 1) (L' := [some (.ref a0), some (.int x1), some (.int x2), some (.int z2), some (.int x4), some (.int x5), some (.int x6)]) e_z2 dX9_mendsOf_123 rfl rfl (by decide) (Nat.le_of_ble_eq_true rfl) rfl ?_
  exact v_X9_mendsOf_126 t_a0 k42 hk42 hf

set_option maxHeartbeats 4000000 in
theorem v_X9_mendsOf_102 {w : Wo} {K : Kn} {a0 : Nat} {x1 : Int32} {x2 : Int32} {q : (Int32 × Mem)} (t_a0 : K a0 = some (.inl 8)) (k42 : Mem → Int32 → Int32 → Int32 → Int32 → Option (Int32 × Mem)) (hk42 : ∀ (m : Mem) (x3 : Int32) (x4 : Int32) (x5 : Int32) (x6 : Int32), k42 m x3 x4 x5 x6 = some q → VV w RX9 cX9_mendsOf 7 (some .int) rm_X9_mendsOf false (QM w K (some (.int q.1)) q.2 0 0) K 42 [some (.ref a0), some (.int x1), some (.int x2), some (.int x3), some (.int x4), some (.int x5), some (.int x6)] [] 0 0 m) {m : Mem} {x3 : Int32} {x4 : Int32} {x5 : Int32} {x6 : Int32} {sa0 : Nat} {s1 : Int32} (t_sa0 : K sa0 = some (.inl 8)) (hf : f_X9_mendsOf_102 K a0 x1 x2 k42 m x3 x4 x5 x6 sa0 s1 = some q) : VV w RX9 cX9_mendsOf 7 (some .int) rm_X9_mendsOf false (QM w K (some (.int q.1)) q.2 0 0) K 102 [some (.ref a0), some (.int x1), some (.int x2), some (.int x3), some (.int x4), some (.int x5), some (.int x6)] [.int s1, .ref sa0] 0 0 m := by
  unfold f_X9_mendsOf_102 at hf
  obtain ⟨m1, e_m1, hf⟩ := bd_s hf
  refine pf_RX9_311 105 dX9_mendsOf_102 rfl t_sa0 e_m1 ?_
  refine vv_aload_n 106 dX9_mendsOf_105 rfl rfl ?_
  refine vv_iload_n 107 dX9_mendsOf_106 rfl rfl ?_
  refine vv_iload_n 108 dX9_mendsOf_107 rfl rfl ?_
  refine vv_icmp_ne 116 111 dX9_mendsOf_108 rfl (by decide) (fun c2 => ?_) (fun c2 => ?_)
  · rw [if_pos c2] at hf
    refine vv_iload 113 dX9_mendsOf_111 rfl rfl ?_
    refine vv_goto 120 dX9_mendsOf_113 (by decide) ?_
    exact v_X9_mendsOf_120 t_a0 k42 hk42 t_a0 hf
  · rw [if_neg c2] at hf
    refine vv_aload_n 117 dX9_mendsOf_116 rfl rfl ?_
    refine gf_RX9_314 120 dX9_mendsOf_117 rfl t_a0 ?_
    exact v_X9_mendsOf_120 t_a0 k42 hk42 t_a0 hf

set_option maxHeartbeats 4000000 in
theorem v_X9_mendsOf_42B {w : Wo} {K : Kn} {a0 : Nat} {x1 : Int32} {x2 : Int32} {q : (Int32 × Mem)} (t_a0 : K a0 = some (.inl 8)) (k19 : Mem → Int32 → Int32 → Option (Int32 × Mem)) (hk19 : ∀ (m : Mem) (x3 : Int32) (x4 : Int32), k19 m x3 x4 = some q → VV w RX9 cX9_mendsOf 7 (some .int) rm_X9_mendsOf false (QM w K (some (.int q.1)) q.2 0 0) K 19 [some (.ref a0), some (.int x1), some (.int x2), some (.int x3), some (.int x4), none, none] [] 0 0 m) (k42 : Mem → Int32 → Int32 → Int32 → Int32 → Option (Int32 × Mem)) (hk42 : ∀ (m : Mem) (x3 : Int32) (x4 : Int32) (x5 : Int32) (x6 : Int32), k42 m x3 x4 x5 x6 = some q → VV w RX9 cX9_mendsOf 7 (some .int) rm_X9_mendsOf false (QM w K (some (.int q.1)) q.2 0 0) K 42 [some (.ref a0), some (.int x1), some (.int x2), some (.int x3), some (.int x4), some (.int x5), some (.int x6)] [] 0 0 m) {m : Mem} {x3 : Int32} {x4 : Int32} {x5 : Int32} {x6 : Int32} (hf : f_X9_mendsOf_42B K a0 x1 x2 k19 k42 m x3 x4 x5 x6 = some q) : VV w RX9 cX9_mendsOf 7 (some .int) rm_X9_mendsOf false (QM w K (some (.int q.1)) q.2 0 0) K 42 [some (.ref a0), some (.int x1), some (.int x2), some (.int x3), some (.int x4), some (.int x5), some (.int x6)] [] 0 0 m := by
  unfold f_X9_mendsOf_42B at hf
  refine vv_iload 44 dX9_mendsOf_42 rfl rfl ?_
  refine vv_sipush 47 (v := 256) dX9_mendsOf_44 rfl (by decide) ?_
  refine vv_icmp_ge 132 50 dX9_mendsOf_47 rfl (by decide) (fun c1 => ?_) (fun c1 => ?_)
  · rw [if_pos c1] at hf
    refine vv_aload_n 133 dX9_mendsOf_132 rfl rfl ?_
    obtain ⟨b2, g_b2, hf⟩ := bind_s hf
    have t_b2 := (ldA_spec g_b2).2
    refine gf_RX9_19 136 dX9_mendsOf_133 rfl t_a0 (ldA_spec g_b2).1 ?_
    refine vv_sipush 139 (v := 200) dX9_mendsOf_136 rfl (by decide) ?_
    refine vv_iload_n 140 dX9_mendsOf_139 rfl rfl ?_
    refine vv_imul 141 dX9_mendsOf_140 rfl ?_
    refine vv_iload 143 dX9_mendsOf_141 rfl rfl ?_
    refine vv_iadd 144 dX9_mendsOf_143 rfl ?_
    refine vv_iload 146 dX9_mendsOf_144 rfl rfl ?_
    obtain ⟨m3, g_m3, hf⟩ := bind_s hf
    refine vv_iast 147 dX9_mendsOf_146 rfl t_b2 g_m3 ?_
    obtain ⟨z4, e_z4, hf⟩ := bd_s hf
    refine vv_iincE (q := 150) (v := z4) (c := 1) (L' := [some (.ref a0), some (.int x1), some (.int x2), some (.int x3), some (.int z4), some (.int x5), some (.int x6)]) e_z4 dX9_mendsOf_147 rfl rfl (by decide) (Nat.le_of_ble_eq_true rfl) rfl ?_
    refine vv_goto 19 dX9_mendsOf_150 (by decide) ?_
    exact VV.lle (hk19 _ _ _ hf) (lle_s (lle_s (lle_s (lle_s (lle_s (lle_n (lle_n lle_nil)))))))
  · rw [if_neg c1] at hf
    refine vv_iload 52 dX9_mendsOf_50 rfl rfl ?_
    refine vv_iload 54 dX9_mendsOf_52 rfl rfl ?_
    refine vv_icmp_ne 60 57 dX9_mendsOf_54 rfl (by decide) (fun c5 => ?_) (fun c5 => ?_)
    · rw [if_pos c5] at hf
      refine vv_goto 126 dX9_mendsOf_57 (by decide) ?_
      exact v_X9_mendsOf_126 t_a0 k42 hk42 hf
    · rw [if_neg c5] at hf
      refine vv_aload_n 61 dX9_mendsOf_60 rfl rfl ?_
      obtain ⟨b6, g_b6, hf⟩ := bind_s hf
      have t_b6 := (ldA_spec g_b6).2
      refine gf_RX9_19 64 dX9_mendsOf_61 rfl t_a0 (ldA_spec g_b6).1 ?_
      refine vv_sipush 67 (v := 200) dX9_mendsOf_64 rfl (by decide) ?_
      refine vv_iload_n 68 dX9_mendsOf_67 rfl rfl ?_
      refine vv_imul 69 dX9_mendsOf_68 rfl ?_
      refine vv_iload 71 dX9_mendsOf_69 rfl rfl ?_
      refine vv_iadd 72 dX9_mendsOf_71 rfl ?_
      refine vv_iload 74 dX9_mendsOf_72 rfl rfl ?_
      obtain ⟨m7, g_m7, hf⟩ := bind_s hf
      refine vv_iast 75 dX9_mendsOf_74 rfl t_b6 g_m7 ?_
      refine vv_aload_n 76 dX9_mendsOf_75 rfl rfl ?_
      refine vv_iload_n 77 dX9_mendsOf_76 rfl rfl ?_
      obtain ⟨q8, g_q8, hf⟩ := bind_s hf
      refine vv_callV 80 (st := []) (As := [.int x1]) (stk2 := []) (cl2 := 0) (sl2 := 0) dX9_mendsOf_77 rfl lk_RX9_242 w_1236 w_24 rfl t_a0 ⟨(Nat.le_of_ble_eq_true rfl), (Nat.le_of_ble_eq_true rfl)⟩ rfl rfl ⟨(Nat.le_of_ble_eq_true rfl), (Nat.le_of_ble_eq_true rfl)⟩ rfl (Nat.le_of_ble_eq_true rfl) rfl rfl rfl rfl (c_X9_reads t_a0 g_q8) ?_
      refine vv_aload_n 81 dX9_mendsOf_80 rfl rfl ?_
      refine gf_RX9_203 84 dX9_mendsOf_81 rfl t_a0 ?_
      refine vv_if_ne 126 87 dX9_mendsOf_84 rfl (by decide) (fun c9 => ?_) (fun c9 => ?_)
      · rw [if_pos c9] at hf
        refine vv_aload_n 88 dX9_mendsOf_87 rfl rfl ?_
        refine vv_iload_n 89 dX9_mendsOf_88 rfl rfl ?_
        refine vv_iload_n 90 dX9_mendsOf_89 rfl rfl ?_
        refine vv_icmp_ne 98 93 dX9_mendsOf_90 rfl (by decide) (fun c10 => ?_) (fun c10 => ?_)
        · rw [if_pos c10] at hf
          refine vv_iload 95 dX9_mendsOf_93 rfl rfl ?_
          refine vv_goto 102 dX9_mendsOf_95 (by decide) ?_
          exact v_X9_mendsOf_102 t_a0 k42 hk42 t_a0 hf
        · rw [if_neg c10] at hf
          refine vv_aload_n 99 dX9_mendsOf_98 rfl rfl ?_
          refine gf_RX9_311 102 dX9_mendsOf_99 rfl t_a0 ?_
          exact v_X9_mendsOf_102 t_a0 k42 hk42 t_a0 hf
      · rw [if_neg c9] at hf
        exact v_X9_mendsOf_126 t_a0 k42 hk42 hf

theorem v_X9_mendsOf_42 {w : Wo} {K : Kn} {a0 : Nat} {x1 : Int32} {x2 : Int32} {q : (Int32 × Mem)} (t_a0 : K a0 = some (.inl 8)) (k19 : Mem → Int32 → Int32 → Option (Int32 × Mem)) (hk19 : ∀ (m : Mem) (x3 : Int32) (x4 : Int32), k19 m x3 x4 = some q → VV w RX9 cX9_mendsOf 7 (some .int) rm_X9_mendsOf false (QM w K (some (.int q.1)) q.2 0 0) K 19 [some (.ref a0), some (.int x1), some (.int x2), some (.int x3), some (.int x4), none, none] [] 0 0 m) : ∀ (n : Nat) (m : Mem) (x3 : Int32) (x4 : Int32) (x5 : Int32) (x6 : Int32), f_X9_mendsOf_42 K a0 x1 x2 k19 n m x3 x4 x5 x6 = some q → VV w RX9 cX9_mendsOf 7 (some .int) rm_X9_mendsOf false (QM w K (some (.int q.1)) q.2 0 0) K 42 [some (.ref a0), some (.int x1), some (.int x2), some (.int x3), some (.int x4), some (.int x5), some (.int x6)] [] 0 0 m := by
  intro n
  induction n with
  | zero => intro m x3 x4 x5 x6 hf; cases hf
  | succ n ih => intro m x3 x4 x5 x6 hf; exact v_X9_mendsOf_42B (a0 := a0) (x1 := x1) (x2 := x2) t_a0 k19 hk19 (f_X9_mendsOf_42 K a0 x1 x2 k19 n) ih hf

set_option maxHeartbeats 4000000 in
theorem v_X9_mendsOf_19B {w : Wo} {K : Kn} {a0 : Nat} {x1 : Int32} {x2 : Int32} {q : (Int32 × Mem)} (t_a0 : K a0 = some (.inl 8)) (k19 : Mem → Int32 → Int32 → Option (Int32 × Mem)) (hk19 : ∀ (m : Mem) (x3 : Int32) (x4 : Int32), k19 m x3 x4 = some q → VV w RX9 cX9_mendsOf 7 (some .int) rm_X9_mendsOf false (QM w K (some (.int q.1)) q.2 0 0) K 19 [some (.ref a0), some (.int x1), some (.int x2), some (.int x3), some (.int x4), none, none] [] 0 0 m) {m : Mem} {x3 : Int32} {x4 : Int32} (hf : f_X9_mendsOf_19B K a0 x1 x2 k19 m x3 x4 = some q) : VV w RX9 cX9_mendsOf 7 (some .int) rm_X9_mendsOf false (QM w K (some (.int q.1)) q.2 0 0) K 19 [some (.ref a0), some (.int x1), some (.int x2), some (.int x3), some (.int x4), none, none] [] 0 0 m := by
  unfold f_X9_mendsOf_19B at hf
  refine vv_iload 21 dX9_mendsOf_19 rfl rfl ?_
  refine vv_aload_n 22 dX9_mendsOf_21 rfl rfl ?_
  obtain ⟨b1, g_b1, hf⟩ := bind_s hf
  have t_b1 := (ldA_spec g_b1).2
  refine gf_RX9_22 25 dX9_mendsOf_22 rfl t_a0 (ldA_spec g_b1).1 ?_
  refine vv_iload_n 26 dX9_mendsOf_25 rfl rfl ?_
  obtain ⟨r2, g_r2, hf⟩ := bind_s hf
  refine vv_iald 27 dX9_mendsOf_26 rfl t_b1 g_r2 ?_
  refine vv_icmp_ge 153 30 dX9_mendsOf_27 rfl (by decide) (fun c3 => ?_) (fun c3 => ?_)
  · rw [if_pos c3] at hf
    refine vv_iload_n 154 dX9_mendsOf_153 rfl rfl ?_
    obtain rfl := Option.some.inj hf
    exact vv_iret dX9_mendsOf_154 rfl
  · rw [if_neg c3] at hf
    refine vv_aload_n 31 dX9_mendsOf_30 rfl rfl ?_
    refine vv_iload_n 32 dX9_mendsOf_31 rfl rfl ?_
    refine vv_iload 34 dX9_mendsOf_32 rfl rfl ?_
    obtain ⟨q4, g_q4, hf⟩ := bind_s hf
    refine vv_callV 37 (st := []) (As := [.int x1, .int x4]) (stk2 := [.int q4]) (cl2 := 0) (sl2 := 0) dX9_mendsOf_34 rfl lk_RX9_107 w_1248 w_27 rfl t_a0 ⟨(Nat.le_of_ble_eq_true rfl), (Nat.le_of_ble_eq_true rfl)⟩ rfl rfl ⟨(Nat.le_of_ble_eq_true rfl), (Nat.le_of_ble_eq_true rfl)⟩ rfl (Nat.le_of_ble_eq_true rfl) rfl rfl rfl rfl (c_X9_byteAt t_a0 g_q4) ?_
    refine vv_istore 39 (L' := [some (.ref a0), some (.int x1), some (.int x2), some (.int x3), some (.int x4), some (.int q4), none]) dX9_mendsOf_37 rfl (Nat.le_of_ble_eq_true rfl) rfl ?_
    refine vv_iconst 40 (v := 0) dX9_mendsOf_39 rfl (by decide) ?_
    refine vv_istore 42 (L' := [some (.ref a0), some (.int x1), some (.int x2), some (.int x3), some (.int x4), some (.int q4), some (.int (0 : Int32))]) dX9_mendsOf_40 rfl (Nat.le_of_ble_eq_true rfl) rfl ?_
    exact v_X9_mendsOf_42 t_a0 k19 hk19 FU _ _ _ _ _ hf

theorem v_X9_mendsOf_19 {w : Wo} {K : Kn} {a0 : Nat} {x1 : Int32} {x2 : Int32} {q : (Int32 × Mem)} (t_a0 : K a0 = some (.inl 8)) : ∀ (n : Nat) (m : Mem) (x3 : Int32) (x4 : Int32), f_X9_mendsOf_19 K a0 x1 x2 n m x3 x4 = some q → VV w RX9 cX9_mendsOf 7 (some .int) rm_X9_mendsOf false (QM w K (some (.int q.1)) q.2 0 0) K 19 [some (.ref a0), some (.int x1), some (.int x2), some (.int x3), some (.int x4), none, none] [] 0 0 m := by
  intro n
  induction n with
  | zero => intro m x3 x4 hf; cases hf
  | succ n ih => intro m x3 x4 hf; exact v_X9_mendsOf_19B (a0 := a0) (x1 := x1) (x2 := x2) t_a0 (f_X9_mendsOf_19 K a0 x1 x2 n) ih hf

set_option maxHeartbeats 4000000 in
theorem v_X9_mendsOf_0 {w : Wo} {K : Kn} {a0 : Nat} {x1 : Int32} {x2 : Int32} {q : (Int32 × Mem)} (t_a0 : K a0 = some (.inl 8)) {m : Mem} (hf : f_X9_mendsOf K a0 x1 x2 m = some q) : VV w RX9 cX9_mendsOf 7 (some .int) rm_X9_mendsOf false (QM w K (some (.int q.1)) q.2 0 0) K 0 [some (.ref a0), some (.int x1), some (.int x2), none, none, none, none] [] 0 0 m := by
  unfold f_X9_mendsOf at hf
  refine vv_aload_n 1 dX9_mendsOf_0 rfl rfl ?_
  refine vv_iload_n 2 dX9_mendsOf_1 rfl rfl ?_
  obtain ⟨q1, g_q1, hf⟩ := bind_s hf
  refine vv_callV 5 (st := []) (As := [.int x1]) (stk2 := []) (cl2 := 0) (sl2 := 0) dX9_mendsOf_2 rfl lk_RX9_242 w_1236 w_24 rfl t_a0 ⟨(Nat.le_of_ble_eq_true rfl), (Nat.le_of_ble_eq_true rfl)⟩ rfl rfl ⟨(Nat.le_of_ble_eq_true rfl), (Nat.le_of_ble_eq_true rfl)⟩ rfl (Nat.le_of_ble_eq_true rfl) rfl rfl rfl rfl (c_X9_reads t_a0 g_q1) ?_
  refine vv_aload_n 6 dX9_mendsOf_5 rfl rfl ?_
  refine gf_RX9_203 9 dX9_mendsOf_6 rfl t_a0 ?_
  refine vv_if_ne 14 12 dX9_mendsOf_9 rfl (by decide) (fun c2 => ?_) (fun c2 => ?_)
  · rw [if_pos c2] at hf
    refine vv_iconst 13 (v := 0) dX9_mendsOf_12 rfl (by decide) ?_
    obtain rfl := Option.some.inj hf
    exact vv_iret dX9_mendsOf_13 rfl
  · rw [if_neg c2] at hf
    refine vv_iconst 15 (v := 0) dX9_mendsOf_14 rfl (by decide) ?_
    refine vv_istore_n 16 (L' := [some (.ref a0), some (.int x1), some (.int x2), some (.int (0 : Int32)), none, none, none]) dX9_mendsOf_15 rfl (Nat.le_of_ble_eq_true rfl) rfl ?_
    refine vv_iconst 17 (v := 0) dX9_mendsOf_16 rfl (by decide) ?_
    refine vv_istore 19 (L' := [some (.ref a0), some (.int x1), some (.int x2), some (.int (0 : Int32)), some (.int (0 : Int32)), none, none]) dX9_mendsOf_17 rfl (Nat.le_of_ble_eq_true rfl) rfl ?_
    exact v_X9_mendsOf_19 t_a0 FU _ _ _ hf

theorem c_X9_mendsOf {w : Wo} {K : Kn} {a0 : Nat} {x1 : Int32} {x2 : Int32} {q : (Int32 × Mem)} {m : Mem} (t_a0 : K a0 = some (.inl 8)) (hf : F_X9_mendsOf K m a0 x1 x2 = some q) : MM w K K yX9_mendsOf cX9_mendsOf 7 (some .int) rm_X9_mendsOf [.ref a0, .int x1, .int x2] m (some (.int q.1)) q.2 0 0 :=
  mm_of (ini := false) (n := 4) (plainFor_of_name (by decide)) rfl (fun h => by first | rfl | cases h) (Nat.le_of_ble_eq_true rfl) rfl (v_X9_mendsOf_0 t_a0 hf)

set_option maxHeartbeats 4000000 in
theorem v_X9_mends_0 {w : Wo} {K : Kn} {a0 : Nat} {x1 : Int32} {x2 : Int32} {q : (Int32 × Mem)} (t_a0 : K a0 = some (.inl 8)) {m : Mem} (hf : f_X9_mends K a0 x1 x2 m = some q) : VV w RX9 cX9_mends 3 (some .int) rm_X9_mends false (QM w K (some (.int q.1)) q.2 0 0) K 0 [some (.ref a0), some (.int x1), some (.int x2)] [] 0 0 m := by
  unfold f_X9_mends at hf
  refine vv_aload_n 1 dX9_mends_0 rfl rfl ?_
  refine vv_iload_n 2 dX9_mends_1 rfl rfl ?_
  refine vv_iload_n 3 dX9_mends_2 rfl rfl ?_
  obtain ⟨q1, g_q1, hf⟩ := bind_s hf
  refine vv_callV 6 (st := []) (As := [.int x1, .int x2]) (stk2 := [.int q1]) (cl2 := 0) (sl2 := 0) dX9_mends_3 rfl lk_RX9_306 w_1402 w_51 rfl t_a0 ⟨(Nat.le_of_ble_eq_true rfl), (Nat.le_of_ble_eq_true rfl)⟩ rfl rfl ⟨(Nat.le_of_ble_eq_true rfl), (Nat.le_of_ble_eq_true rfl)⟩ rfl (Nat.le_of_ble_eq_true rfl) rfl rfl rfl rfl (c_X9_isBlock t_a0 g_q1) ?_
  refine vv_if_eq 23 9 dX9_mends_6 rfl (by decide) (fun c2 => ?_) (fun c2 => ?_)
  · rw [if_pos c2] at hf
    refine vv_bipush 25 (v := (-2)) dX9_mends_23 rfl (by decide) ?_
    obtain rfl := Option.some.inj hf
    exact vv_iret dX9_mends_25 rfl
  · rw [if_neg c2] at hf
    refine vv_aload_n 10 dX9_mends_9 rfl rfl ?_
    refine vv_bipush 12 (v := 16) dX9_mends_10 rfl (by decide) ?_
    refine vv_iload_n 13 dX9_mends_12 rfl rfl ?_
    refine vv_imul 14 dX9_mends_13 rfl ?_
    refine vv_iload_n 15 dX9_mends_14 rfl rfl ?_
    refine vv_iadd 16 dX9_mends_15 rfl ?_
    refine vv_iconst 17 (v := (-1)) dX9_mends_16 rfl (by decide) ?_
    obtain ⟨q3, g_q3, hf⟩ := bind_s hf
    refine vv_callV 20 (st := []) (As := [.int (((16 : Int32) * x1) + x2), .int (-1 : Int32)]) (stk2 := [.int q3.1]) (cl2 := 0) (sl2 := 0) dX9_mends_17 rfl lk_RX9_317 w_1423 w_52 rfl t_a0 ⟨(Nat.le_of_ble_eq_true rfl), (Nat.le_of_ble_eq_true rfl)⟩ rfl rfl ⟨(Nat.le_of_ble_eq_true rfl), (Nat.le_of_ble_eq_true rfl)⟩ rfl (Nat.le_of_ble_eq_true rfl) rfl rfl rfl rfl (c_X9_mendsOf t_a0 g_q3) ?_
    refine vv_goto 25 dX9_mends_20 (by decide) ?_
    obtain rfl := Option.some.inj hf
    exact vv_iret dX9_mends_25 rfl

theorem c_X9_mends {w : Wo} {K : Kn} {a0 : Nat} {x1 : Int32} {x2 : Int32} {q : (Int32 × Mem)} {m : Mem} (t_a0 : K a0 = some (.inl 8)) (hf : F_X9_mends K m a0 x1 x2 = some q) : MM w K K yX9_mends cX9_mends 3 (some .int) rm_X9_mends [.ref a0, .int x1, .int x2] m (some (.int q.1)) q.2 0 0 :=
  mm_of (ini := false) (n := 0) (plainFor_of_name (by decide)) rfl (fun h => by first | rfl | cases h) (Nat.le_of_ble_eq_true rfl) rfl (v_X9_mends_0 t_a0 hf)

set_option maxHeartbeats 4000000 in
theorem v_X9_mend_0 {w : Wo} {K : Kn} {a0 : Nat} {x1 : Int32} {x2 : Int32} {x3 : Int32} {x4 : Int32} {q : (Int32 × Mem)} (t_a0 : K a0 = some (.inl 8)) {m : Mem} (hf : f_X9_mend K a0 x1 x2 x3 x4 m = some q) : VV w RX9 cX9_mend 6 (some .int) rm_X9_mend false (QM w K (some (.int q.1)) q.2 0 0) K 0 [some (.ref a0), some (.int x1), some (.int x2), some (.int x3), some (.int x4), none] [] 0 0 m := by
  unfold f_X9_mend at hf
  refine vv_aload_n 1 dX9_mend_0 rfl rfl ?_
  refine vv_iload_n 2 dX9_mend_1 rfl rfl ?_
  refine vv_iload_n 3 dX9_mend_2 rfl rfl ?_
  obtain ⟨q1, g_q1, hf⟩ := bind_s hf
  refine vv_callV 6 (st := []) (As := [.int x1, .int x2]) (stk2 := [.int q1]) (cl2 := 0) (sl2 := 0) dX9_mend_3 rfl lk_RX9_306 w_1402 w_51 rfl t_a0 ⟨(Nat.le_of_ble_eq_true rfl), (Nat.le_of_ble_eq_true rfl)⟩ rfl rfl ⟨(Nat.le_of_ble_eq_true rfl), (Nat.le_of_ble_eq_true rfl)⟩ rfl (Nat.le_of_ble_eq_true rfl) rfl rfl rfl rfl (c_X9_isBlock t_a0 g_q1) ?_
  refine vv_if_eq 20 9 dX9_mend_6 rfl (by decide) (fun c2 => ?_) (fun c2 => ?_)
  · rw [if_pos c2] at hf
    refine vv_bipush 22 (v := (-2)) dX9_mend_20 rfl (by decide) ?_
    obtain rfl := Option.some.inj hf
    exact vv_iret dX9_mend_22 rfl
  · rw [if_neg c2] at hf
    refine vv_iload 11 dX9_mend_9 rfl rfl ?_
    refine vv_i2l 12 dX9_mend_11 rfl ?_
    refine vv_lconst 13 (v := 0) dX9_mend_12 rfl (by decide) ?_
    refine vv_lconst 14 (v := 1) dX9_mend_13 rfl (by decide) ?_
    obtain ⟨q3, g_q3, hf⟩ := bind_s hf
    refine vv_callS 17 (st := []) (As := [.long ((x4).toInt64), .long (0 : Int64), .long (1 : Int64)]) (stk2 := [.int q3]) (cl2 := 0) (sl2 := 0) dX9_mend_14 rfl lk_RX9_83 w_1206 ⟨(Nat.le_of_ble_eq_true rfl), (Nat.le_of_ble_eq_true rfl)⟩ rfl rfl ⟨(Nat.le_of_ble_eq_true rfl), (Nat.le_of_ble_eq_true rfl)⟩ rfl (Nat.le_of_ble_eq_true rfl) rfl rfl rfl rfl (c_X9_in g_q3) ?_
    refine vv_if_ne 23 20 dX9_mend_17 rfl (by decide) (fun c4 => ?_) (fun c4 => ?_)
    · rw [if_pos c4] at hf
      refine vv_bipush 22 (v := (-2)) dX9_mend_20 rfl (by decide) ?_
      obtain rfl := Option.some.inj hf
      exact vv_iret dX9_mend_22 rfl
    · rw [if_neg c4] at hf
      refine vv_aload_n 24 dX9_mend_23 rfl rfl ?_
      refine vv_bipush 26 (v := 16) dX9_mend_24 rfl (by decide) ?_
      refine vv_iload_n 27 dX9_mend_26 rfl rfl ?_
      refine vv_imul 28 dX9_mend_27 rfl ?_
      refine vv_iload_n 29 dX9_mend_28 rfl rfl ?_
      refine vv_iadd 30 dX9_mend_29 rfl ?_
      refine vv_iload_n 31 dX9_mend_30 rfl rfl ?_
      obtain ⟨q5, g_q5, hf⟩ := bind_s hf
      refine vv_callV 34 (st := []) (As := [.int (((16 : Int32) * x1) + x2), .int x3]) (stk2 := [.int q5.1]) (cl2 := 0) (sl2 := 0) dX9_mend_31 rfl lk_RX9_317 w_1423 w_52 rfl t_a0 ⟨(Nat.le_of_ble_eq_true rfl), (Nat.le_of_ble_eq_true rfl)⟩ rfl rfl ⟨(Nat.le_of_ble_eq_true rfl), (Nat.le_of_ble_eq_true rfl)⟩ rfl (Nat.le_of_ble_eq_true rfl) rfl rfl rfl rfl (c_X9_mendsOf t_a0 g_q5) ?_
      obtain ⟨z6, e_z6, hf⟩ := bd_s hf
      refine vv_istoreE (q := 36) (v := z6) (L' := [some (.ref a0), some (.int x1), some (.int x2), some (.int x3), some (.int x4), some (.int z6)]) e_z6 dX9_mend_34 rfl (Nat.le_of_ble_eq_true rfl) rfl ?_
      refine vv_iload_n 37 dX9_mend_36 rfl rfl ?_
      refine vv_i2l 38 dX9_mend_37 rfl ?_
      refine vv_lconst 39 (v := 0) dX9_mend_38 rfl (by decide) ?_
      refine vv_iload 41 dX9_mend_39 rfl rfl ?_
      refine vv_iconst 42 (v := 1) dX9_mend_41 rfl (by decide) ?_
      refine vv_isub 43 dX9_mend_42 rfl ?_
      refine vv_i2l 44 dX9_mend_43 rfl ?_
      obtain ⟨q7, g_q7, hf⟩ := bind_s hf
      refine vv_callS 47 (st := []) (As := [.long ((x3).toInt64), .long (0 : Int64), .long ((z6 - (1 : Int32)).toInt64)]) (stk2 := [.int q7]) (cl2 := 0) (sl2 := 0) dX9_mend_44 rfl lk_RX9_83 w_1206 ⟨(Nat.le_of_ble_eq_true rfl), (Nat.le_of_ble_eq_true rfl)⟩ rfl rfl ⟨(Nat.le_of_ble_eq_true rfl), (Nat.le_of_ble_eq_true rfl)⟩ rfl (Nat.le_of_ble_eq_true rfl) rfl rfl rfl rfl (c_X9_in g_q7) ?_
      refine vv_if_ne 54 50 dX9_mend_47 rfl (by decide) (fun c8 => ?_) (fun c8 => ?_)
      · rw [if_pos c8] at hf
        refine vv_iconst 51 (v := (-1)) dX9_mend_50 rfl (by decide) ?_
        refine vv_goto 70 dX9_mend_51 (by decide) ?_
        obtain rfl := Option.some.inj hf
        exact vv_iret dX9_mend_70 rfl
      · rw [if_neg c8] at hf
        refine vv_iload 56 dX9_mend_54 rfl rfl ?_
        refine vv_if_ne 66 59 dX9_mend_56 rfl (by decide) (fun c9 => ?_) (fun c9 => ?_)
        · rw [if_pos c9] at hf
          refine vv_aload_n 60 dX9_mend_59 rfl rfl ?_
          refine gf_RX9_311 63 dX9_mend_60 rfl t_a0 ?_
          refine vv_goto 70 dX9_mend_63 (by decide) ?_
          obtain rfl := Option.some.inj hf
          exact vv_iret dX9_mend_70 rfl
        · rw [if_neg c9] at hf
          refine vv_aload_n 67 dX9_mend_66 rfl rfl ?_
          refine gf_RX9_314 70 dX9_mend_67 rfl t_a0 ?_
          obtain rfl := Option.some.inj hf
          exact vv_iret dX9_mend_70 rfl

theorem c_X9_mend {w : Wo} {K : Kn} {a0 : Nat} {x1 : Int32} {x2 : Int32} {x3 : Int32} {x4 : Int32} {q : (Int32 × Mem)} {m : Mem} (t_a0 : K a0 = some (.inl 8)) (hf : F_X9_mend K m a0 x1 x2 x3 x4 = some q) : MM w K K yX9_mend cX9_mend 6 (some .int) rm_X9_mend [.ref a0, .int x1, .int x2, .int x3, .int x4] m (some (.int q.1)) q.2 0 0 :=
  mm_of (ini := false) (n := 1) (plainFor_of_name (by decide)) rfl (fun h => by first | rfl | cases h) (Nat.le_of_ble_eq_true rfl) rfl (v_X9_mend_0 t_a0 hf)

set_option maxHeartbeats 4000000 in
theorem v_X9_seals_0 {w : Wo} {K : Kn} {a0 : Nat} {x1 : Int32} {q : (Int32 × Mem)} (t_a0 : K a0 = some (.inl 8)) {m : Mem} (hf : f_X9_seals K a0 x1 m = some q) : VV w RX9 cX9_seals 3 (some .int) rm_X9_seals false (QM w K (some (.int q.1)) q.2 0 0) K 0 [some (.ref a0), some (.int x1), none] [] 0 0 m := by
  unfold f_X9_seals at hf
  refine vv_aload_n 1 dX9_seals_0 rfl rfl ?_
  refine vv_iload_n 2 dX9_seals_1 rfl rfl ?_
  obtain ⟨q1, g_q1, hf⟩ := bind_s hf
  refine vv_callV 5 (st := []) (As := [.int x1]) (stk2 := [.int q1]) (cl2 := 0) (sl2 := 0) dX9_seals_2 rfl lk_RX9_87 w_1220 w_21 rfl t_a0 ⟨(Nat.le_of_ble_eq_true rfl), (Nat.le_of_ble_eq_true rfl)⟩ rfl rfl ⟨(Nat.le_of_ble_eq_true rfl), (Nat.le_of_ble_eq_true rfl)⟩ rfl (Nat.le_of_ble_eq_true rfl) rfl rfl rfl rfl (c_X9_isSeries t_a0 g_q1) ?_
  refine vv_if_ne 11 8 dX9_seals_5 rfl (by decide) (fun c2 => ?_) (fun c2 => ?_)
  · rw [if_pos c2] at hf
    refine vv_bipush 10 (v := (-2)) dX9_seals_8 rfl (by decide) ?_
    obtain rfl := Option.some.inj hf
    exact vv_iret dX9_seals_10 rfl
  · rw [if_neg c2] at hf
    refine vv_bipush 13 (v := 16) dX9_seals_11 rfl (by decide) ?_
    refine vv_iload_n 14 dX9_seals_13 rfl rfl ?_
    refine vv_imul 15 dX9_seals_14 rfl ?_
    refine vv_aload_n 16 dX9_seals_15 rfl rfl ?_
    obtain ⟨b3, g_b3, hf⟩ := bind_s hf
    have t_b3 := (ldA_spec g_b3).2
    refine gf_RX9_16 19 dX9_seals_16 rfl t_a0 (ldA_spec g_b3).1 ?_
    refine vv_iload_n 20 dX9_seals_19 rfl rfl ?_
    obtain ⟨r4, g_r4, hf⟩ := bind_s hf
    refine vv_iald 21 dX9_seals_20 rfl t_b3 g_r4 ?_
    refine vv_iadd 22 dX9_seals_21 rfl ?_
    refine vv_iconst 23 (v := 1) dX9_seals_22 rfl (by decide) ?_
    refine vv_isub 24 dX9_seals_23 rfl ?_
    obtain ⟨z5, e_z5, hf⟩ := bd_s hf
    refine vv_istore_nE (q := 25) (v := z5) (L' := [some (.ref a0), some (.int x1), some (.int z5)]) e_z5 dX9_seals_24 rfl (Nat.le_of_ble_eq_true rfl) rfl ?_
    refine vv_aload_n 26 dX9_seals_25 rfl rfl ?_
    obtain ⟨b6, g_b6, hf⟩ := bind_s hf
    have t_b6 := (ldA_spec g_b6).2
    refine gf_RX9_16 29 dX9_seals_26 rfl t_a0 (ldA_spec g_b6).1 ?_
    refine vv_iload_n 30 dX9_seals_29 rfl rfl ?_
    obtain ⟨r7, g_r7, hf⟩ := bind_s hf
    refine vv_iald 31 dX9_seals_30 rfl t_b6 g_r7 ?_
    refine vv_if_eq 43 34 dX9_seals_31 rfl (by decide) (fun c8 => ?_) (fun c8 => ?_)
    · rw [if_pos c8] at hf
      refine vv_bipush 45 (v := (-5)) dX9_seals_43 rfl (by decide) ?_
      obtain rfl := Option.some.inj hf
      exact vv_iret dX9_seals_45 rfl
    · rw [if_neg c8] at hf
      refine vv_aload_n 35 dX9_seals_34 rfl rfl ?_
      obtain ⟨b9, g_b9, hf⟩ := bind_s hf
      have t_b9 := (ldA_spec g_b9).2
      refine gf_RX9_28 38 dX9_seals_35 rfl t_a0 (ldA_spec g_b9).1 ?_
      refine vv_iload_n 39 dX9_seals_38 rfl rfl ?_
      obtain ⟨r10, g_r10, hf⟩ := bind_s hf
      refine vv_zald 40 dX9_seals_39 rfl t_b9 g_r10 ?_
      refine vv_if_eq 46 43 dX9_seals_40 rfl (by decide) (fun c11 => ?_) (fun c11 => ?_)
      · rw [if_pos c11] at hf
        refine vv_aload_n 47 dX9_seals_46 rfl rfl ?_
        refine vv_iload_n 48 dX9_seals_47 rfl rfl ?_
        obtain ⟨q12, g_q12, hf⟩ := bind_s hf
        refine vv_callV 51 (st := []) (As := [.int z5]) (stk2 := []) (cl2 := 0) (sl2 := 0) dX9_seals_48 rfl lk_RX9_242 w_1236 w_24 rfl t_a0 ⟨(Nat.le_of_ble_eq_true rfl), (Nat.le_of_ble_eq_true rfl)⟩ rfl rfl ⟨(Nat.le_of_ble_eq_true rfl), (Nat.le_of_ble_eq_true rfl)⟩ rfl (Nat.le_of_ble_eq_true rfl) rfl rfl rfl rfl (c_X9_reads t_a0 g_q12) ?_
        refine vv_aload_n 52 dX9_seals_51 rfl rfl ?_
        refine vv_iload_n 53 dX9_seals_52 rfl rfl ?_
        obtain ⟨q13, g_q13, hf⟩ := bind_s hf
        refine vv_callV 56 (st := []) (As := [.int z5]) (stk2 := []) (cl2 := 0) (sl2 := 0) dX9_seals_53 rfl lk_RX9_262 w_1335 w_41 rfl t_a0 ⟨(Nat.le_of_ble_eq_true rfl), (Nat.le_of_ble_eq_true rfl)⟩ rfl rfl ⟨(Nat.le_of_ble_eq_true rfl), (Nat.le_of_ble_eq_true rfl)⟩ rfl (Nat.le_of_ble_eq_true rfl) rfl rfl rfl rfl (c_X9_seals0 t_a0 g_q13) ?_
        refine vv_aload_n 57 dX9_seals_56 rfl rfl ?_
        obtain ⟨b14, g_b14, hf⟩ := bind_s hf
        have t_b14 := (ldA_spec g_b14).2
        refine gf_RX9_22 60 dX9_seals_57 rfl t_a0 (ldA_spec g_b14).1 ?_
        refine vv_iload_n 61 dX9_seals_60 rfl rfl ?_
        obtain ⟨r15, g_r15, hf⟩ := bind_s hf
        refine vv_iald 62 dX9_seals_61 rfl t_b14 g_r15 ?_
        obtain rfl := Option.some.inj hf
        exact vv_iret dX9_seals_62 rfl
      · rw [if_neg c11] at hf
        refine vv_bipush 45 (v := (-5)) dX9_seals_43 rfl (by decide) ?_
        obtain rfl := Option.some.inj hf
        exact vv_iret dX9_seals_45 rfl

theorem c_X9_seals {w : Wo} {K : Kn} {a0 : Nat} {x1 : Int32} {q : (Int32 × Mem)} {m : Mem} (t_a0 : K a0 = some (.inl 8)) (hf : F_X9_seals K m a0 x1 = some q) : MM w K K yX9_seals cX9_seals 3 (some .int) rm_X9_seals [.ref a0, .int x1] m (some (.int q.1)) q.2 0 0 :=
  mm_of (ini := false) (n := 1) (plainFor_of_name (by decide)) rfl (fun h => by first | rfl | cases h) (Nat.le_of_ble_eq_true rfl) rfl (v_X9_seals_0 t_a0 hf)

set_option maxHeartbeats 4000000 in
theorem v_X9_drops_47B {w : Wo} {K : Kn} {a0 : Nat} {x1 : Int32} {x2 : Int32} {q : (Int32 × Mem)} (t_a0 : K a0 = some (.inl 8)) (k29 : Mem → Int32 → Option (Int32 × Mem)) (hk29 : ∀ (m : Mem) (x3 : Int32), k29 m x3 = some q → VV w RX9 cX9_drops 5 (some .int) rm_X9_drops false (QM w K (some (.int q.1)) q.2 0 0) K 29 [some (.ref a0), some (.int x1), none, some (.int x3), none] [] 0 0 m) (k47 : Mem → Int32 → Int32 → Option (Int32 × Mem)) (hk47 : ∀ (m : Mem) (x3 : Int32) (x4 : Int32), k47 m x3 x4 = some q → VV w RX9 cX9_drops 5 (some .int) rm_X9_drops false (QM w K (some (.int q.1)) q.2 0 0) K 47 [some (.ref a0), some (.int x1), none, some (.int x3), some (.int x4)] [] 0 0 m) {m : Mem} {x3 : Int32} {x4 : Int32} (hf : f_X9_drops_47B K a0 x1 x2 k29 k47 m x3 x4 = some q) : VV w RX9 cX9_drops 5 (some .int) rm_X9_drops false (QM w K (some (.int q.1)) q.2 0 0) K 47 [some (.ref a0), some (.int x1), none, some (.int x3), some (.int x4)] [] 0 0 m := by
  unfold f_X9_drops_47B at hf
  refine vv_iload 49 dX9_drops_47 rfl rfl ?_
  refine vv_sipush 52 (v := 200) dX9_drops_49 rfl (by decide) ?_
  refine vv_icmp_ge 89 55 dX9_drops_52 rfl (by decide) (fun c1 => ?_) (fun c1 => ?_)
  · rw [if_pos c1] at hf
    refine vv_aload_n 90 dX9_drops_89 rfl rfl ?_
    obtain ⟨b2, g_b2, hf⟩ := bind_s hf
    have t_b2 := (ldA_spec g_b2).2
    refine gf_RX9_22 93 dX9_drops_90 rfl t_a0 (ldA_spec g_b2).1 ?_
    refine vv_iload_n 94 dX9_drops_93 rfl rfl ?_
    refine vv_aload_n 95 dX9_drops_94 rfl rfl ?_
    obtain ⟨b3, g_b3, hf⟩ := bind_s hf
    have t_b3 := (ldA_spec g_b3).2
    refine gf_RX9_22 98 dX9_drops_95 rfl t_a0 (ldA_spec g_b3).1 ?_
    refine vv_iload_n 99 dX9_drops_98 rfl rfl ?_
    refine vv_iconst 100 (v := 1) dX9_drops_99 rfl (by decide) ?_
    refine vv_iadd 101 dX9_drops_100 rfl ?_
    obtain ⟨r4, g_r4, hf⟩ := bind_s hf
    refine vv_iald 102 dX9_drops_101 rfl t_b3 g_r4 ?_
    obtain ⟨m5, g_m5, hf⟩ := bind_s hf
    refine vv_iast 103 dX9_drops_102 rfl t_b2 g_m5 ?_
    refine vv_aload_n 104 dX9_drops_103 rfl rfl ?_
    obtain ⟨b6, g_b6, hf⟩ := bind_s hf
    have t_b6 := (ldA_spec g_b6).2
    refine gf_RX9_25 107 dX9_drops_104 rfl t_a0 (ldA_spec g_b6).1 ?_
    refine vv_iload_n 108 dX9_drops_107 rfl rfl ?_
    refine vv_aload_n 109 dX9_drops_108 rfl rfl ?_
    obtain ⟨b7, g_b7, hf⟩ := bind_s hf
    have t_b7 := (ldA_spec g_b7).2
    refine gf_RX9_25 112 dX9_drops_109 rfl t_a0 (ldA_spec g_b7).1 ?_
    refine vv_iload_n 113 dX9_drops_112 rfl rfl ?_
    refine vv_iconst 114 (v := 1) dX9_drops_113 rfl (by decide) ?_
    refine vv_iadd 115 dX9_drops_114 rfl ?_
    obtain ⟨r8, g_r8, hf⟩ := bind_s hf
    refine vv_iald 116 dX9_drops_115 rfl t_b7 g_r8 ?_
    obtain ⟨m9, g_m9, hf⟩ := bind_s hf
    refine vv_iast 117 dX9_drops_116 rfl t_b6 g_m9 ?_
    refine vv_aload_n 118 dX9_drops_117 rfl rfl ?_
    obtain ⟨b10, g_b10, hf⟩ := bind_s hf
    have t_b10 := (ldA_spec g_b10).2
    refine gf_RX9_28 121 dX9_drops_118 rfl t_a0 (ldA_spec g_b10).1 ?_
    refine vv_iload_n 122 dX9_drops_121 rfl rfl ?_
    refine vv_aload_n 123 dX9_drops_122 rfl rfl ?_
    obtain ⟨b11, g_b11, hf⟩ := bind_s hf
    have t_b11 := (ldA_spec g_b11).2
    refine gf_RX9_28 126 dX9_drops_123 rfl t_a0 (ldA_spec g_b11).1 ?_
    refine vv_iload_n 127 dX9_drops_126 rfl rfl ?_
    refine vv_iconst 128 (v := 1) dX9_drops_127 rfl (by decide) ?_
    refine vv_iadd 129 dX9_drops_128 rfl ?_
    obtain ⟨r12, g_r12, hf⟩ := bind_s hf
    refine vv_zald 130 dX9_drops_129 rfl t_b11 g_r12 ?_
    obtain ⟨m13, g_m13, hf⟩ := bind_s hf
    refine vv_zast 131 dX9_drops_130 rfl t_b10 g_m13 ?_
    refine vv_aload_n 132 dX9_drops_131 rfl rfl ?_
    obtain ⟨b14, g_b14, hf⟩ := bind_s hf
    have t_b14 := (ldA_spec g_b14).2
    refine gf_RX9_32 135 dX9_drops_132 rfl t_a0 (ldA_spec g_b14).1 ?_
    refine vv_iload_n 136 dX9_drops_135 rfl rfl ?_
    refine vv_aload_n 137 dX9_drops_136 rfl rfl ?_
    obtain ⟨b15, g_b15, hf⟩ := bind_s hf
    have t_b15 := (ldA_spec g_b15).2
    refine gf_RX9_32 140 dX9_drops_137 rfl t_a0 (ldA_spec g_b15).1 ?_
    refine vv_iload_n 141 dX9_drops_140 rfl rfl ?_
    refine vv_iconst 142 (v := 1) dX9_drops_141 rfl (by decide) ?_
    refine vv_iadd 143 dX9_drops_142 rfl ?_
    obtain ⟨r16, g_r16, hf⟩ := bind_s hf
    refine vv_iald 144 dX9_drops_143 rfl t_b15 g_r16 ?_
    obtain ⟨m17, g_m17, hf⟩ := bind_s hf
    refine vv_iast 145 dX9_drops_144 rfl t_b14 g_m17 ?_
    refine vv_aload_n 146 dX9_drops_145 rfl rfl ?_
    obtain ⟨b18, g_b18, hf⟩ := bind_s hf
    have t_b18 := (ldA_spec g_b18).2
    refine gf_RX9_35 149 dX9_drops_146 rfl t_a0 (ldA_spec g_b18).1 ?_
    refine vv_iload_n 150 dX9_drops_149 rfl rfl ?_
    refine vv_aload_n 151 dX9_drops_150 rfl rfl ?_
    obtain ⟨b19, g_b19, hf⟩ := bind_s hf
    have t_b19 := (ldA_spec g_b19).2
    refine gf_RX9_35 154 dX9_drops_151 rfl t_a0 (ldA_spec g_b19).1 ?_
    refine vv_iload_n 155 dX9_drops_154 rfl rfl ?_
    refine vv_iconst 156 (v := 1) dX9_drops_155 rfl (by decide) ?_
    refine vv_iadd 157 dX9_drops_156 rfl ?_
    obtain ⟨r20, g_r20, hf⟩ := bind_s hf
    refine vv_iald 158 dX9_drops_157 rfl t_b19 g_r20 ?_
    obtain ⟨m21, g_m21, hf⟩ := bind_s hf
    refine vv_iast 159 dX9_drops_158 rfl t_b18 g_m21 ?_
    obtain ⟨z22, e_z22, hf⟩ := bd_s hf
    refine vv_iincE (q := 162) (v := z22) (c := 1) (L' := [some (.ref a0), some (.int x1), none, some (.int z22), some (.int x4)]) e_z22 dX9_drops_159 rfl rfl (by decide) (Nat.le_of_ble_eq_true rfl) rfl ?_
    refine vv_goto 29 dX9_drops_162 (by decide) ?_
    exact VV.lle (hk29 _ _ hf) (lle_s (lle_s (lle_s (lle_s (lle_n lle_nil)))))
  · rw [if_neg c1] at hf
    refine vv_aload_n 56 dX9_drops_55 rfl rfl ?_
    obtain ⟨b23, g_b23, hf⟩ := bind_s hf
    have t_b23 := (ldA_spec g_b23).2
    refine gf_RX9_19 59 dX9_drops_56 rfl t_a0 (ldA_spec g_b23).1 ?_
    refine vv_sipush 62 (v := 200) dX9_drops_59 rfl (by decide) ?_
    refine vv_iload_n 63 dX9_drops_62 rfl rfl ?_
    refine vv_imul 64 dX9_drops_63 rfl ?_
    refine vv_iload 66 dX9_drops_64 rfl rfl ?_
    refine vv_iadd 67 dX9_drops_66 rfl ?_
    refine vv_aload_n 68 dX9_drops_67 rfl rfl ?_
    obtain ⟨b24, g_b24, hf⟩ := bind_s hf
    have t_b24 := (ldA_spec g_b24).2
    refine gf_RX9_19 71 dX9_drops_68 rfl t_a0 (ldA_spec g_b24).1 ?_
    refine vv_sipush 74 (v := 200) dX9_drops_71 rfl (by decide) ?_
    refine vv_iload_n 75 dX9_drops_74 rfl rfl ?_
    refine vv_iconst 76 (v := 1) dX9_drops_75 rfl (by decide) ?_
    refine vv_iadd 77 dX9_drops_76 rfl ?_
    refine vv_imul 78 dX9_drops_77 rfl ?_
    refine vv_iload 80 dX9_drops_78 rfl rfl ?_
    refine vv_iadd 81 dX9_drops_80 rfl ?_
    obtain ⟨r25, g_r25, hf⟩ := bind_s hf
    refine vv_iald 82 dX9_drops_81 rfl t_b24 g_r25 ?_
    obtain ⟨m26, g_m26, hf⟩ := bind_s hf
    refine vv_iast 83 dX9_drops_82 rfl t_b23 g_m26 ?_
    obtain ⟨z27, e_z27, hf⟩ := bd_s hf
    refine vv_iincE (q := 86) (v := z27) (c := 1) (L' := [some (.ref a0), some (.int x1), none, some (.int x3), some (.int z27)]) e_z27 dX9_drops_83 rfl rfl (by decide) (Nat.le_of_ble_eq_true rfl) rfl ?_
    refine vv_goto 47 dX9_drops_86 (by decide) ?_
    exact hk47 _ _ _ hf

theorem v_X9_drops_47 {w : Wo} {K : Kn} {a0 : Nat} {x1 : Int32} {x2 : Int32} {q : (Int32 × Mem)} (t_a0 : K a0 = some (.inl 8)) (k29 : Mem → Int32 → Option (Int32 × Mem)) (hk29 : ∀ (m : Mem) (x3 : Int32), k29 m x3 = some q → VV w RX9 cX9_drops 5 (some .int) rm_X9_drops false (QM w K (some (.int q.1)) q.2 0 0) K 29 [some (.ref a0), some (.int x1), none, some (.int x3), none] [] 0 0 m) : ∀ (n : Nat) (m : Mem) (x3 : Int32) (x4 : Int32), f_X9_drops_47 K a0 x1 x2 k29 n m x3 x4 = some q → VV w RX9 cX9_drops 5 (some .int) rm_X9_drops false (QM w K (some (.int q.1)) q.2 0 0) K 47 [some (.ref a0), some (.int x1), none, some (.int x3), some (.int x4)] [] 0 0 m := by
  intro n
  induction n with
  | zero => intro m x3 x4 hf; cases hf
  | succ n ih => intro m x3 x4 hf; exact v_X9_drops_47B (a0 := a0) (x1 := x1) (x2 := x2) t_a0 k29 hk29 (f_X9_drops_47 K a0 x1 x2 k29 n) ih hf

set_option maxHeartbeats 4000000 in
theorem v_X9_drops_29B {w : Wo} {K : Kn} {a0 : Nat} {x1 : Int32} {x2 : Int32} {q : (Int32 × Mem)} (t_a0 : K a0 = some (.inl 8)) (k29 : Mem → Int32 → Option (Int32 × Mem)) (hk29 : ∀ (m : Mem) (x3 : Int32), k29 m x3 = some q → VV w RX9 cX9_drops 5 (some .int) rm_X9_drops false (QM w K (some (.int q.1)) q.2 0 0) K 29 [some (.ref a0), some (.int x1), none, some (.int x3), none] [] 0 0 m) {m : Mem} {x3 : Int32} (hf : f_X9_drops_29B K a0 x1 x2 k29 m x3 = some q) : VV w RX9 cX9_drops 5 (some .int) rm_X9_drops false (QM w K (some (.int q.1)) q.2 0 0) K 29 [some (.ref a0), some (.int x1), none, some (.int x3), none] [] 0 0 m := by
  unfold f_X9_drops_29B at hf
  refine vv_iload_n 30 dX9_drops_29 rfl rfl ?_
  refine vv_bipush 32 (v := 16) dX9_drops_30 rfl (by decide) ?_
  refine vv_iload_n 33 dX9_drops_32 rfl rfl ?_
  refine vv_imul 34 dX9_drops_33 rfl ?_
  refine vv_aload_n 35 dX9_drops_34 rfl rfl ?_
  obtain ⟨b1, g_b1, hf⟩ := bind_s hf
  have t_b1 := (ldA_spec g_b1).2
  refine gf_RX9_16 38 dX9_drops_35 rfl t_a0 (ldA_spec g_b1).1 ?_
  refine vv_iload_n 39 dX9_drops_38 rfl rfl ?_
  obtain ⟨r2, g_r2, hf⟩ := bind_s hf
  refine vv_iald 40 dX9_drops_39 rfl t_b1 g_r2 ?_
  refine vv_iadd 41 dX9_drops_40 rfl ?_
  refine vv_icmp_ge 165 44 dX9_drops_41 rfl (by decide) (fun c3 => ?_) (fun c3 => ?_)
  · rw [if_pos c3] at hf
    refine vv_aload_n 166 dX9_drops_165 rfl rfl ?_
    obtain ⟨b4, g_b4, hf⟩ := bind_s hf
    have t_b4 := (ldA_spec g_b4).2
    refine gf_RX9_16 169 dX9_drops_166 rfl t_a0 (ldA_spec g_b4).1 ?_
    refine vv_iload_n 170 dX9_drops_169 rfl rfl ?_
    obtain ⟨r5, g_r5, hf⟩ := bind_s hf
    refine vv_iald 171 dX9_drops_170 rfl t_b4 g_r5 ?_
    obtain rfl := Option.some.inj hf
    exact vv_iret dX9_drops_171 rfl
  · rw [if_neg c3] at hf
    refine vv_iconst 45 (v := 0) dX9_drops_44 rfl (by decide) ?_
    refine vv_istore 47 (L' := [some (.ref a0), some (.int x1), none, some (.int x3), some (.int (0 : Int32))]) dX9_drops_45 rfl (Nat.le_of_ble_eq_true rfl) rfl ?_
    exact v_X9_drops_47 t_a0 k29 hk29 FU _ _ _ hf

theorem v_X9_drops_29 {w : Wo} {K : Kn} {a0 : Nat} {x1 : Int32} {x2 : Int32} {q : (Int32 × Mem)} (t_a0 : K a0 = some (.inl 8)) : ∀ (n : Nat) (m : Mem) (x3 : Int32), f_X9_drops_29 K a0 x1 x2 n m x3 = some q → VV w RX9 cX9_drops 5 (some .int) rm_X9_drops false (QM w K (some (.int q.1)) q.2 0 0) K 29 [some (.ref a0), some (.int x1), none, some (.int x3), none] [] 0 0 m := by
  intro n
  induction n with
  | zero => intro m x3 hf; cases hf
  | succ n ih => intro m x3 hf; exact v_X9_drops_29B (a0 := a0) (x1 := x1) (x2 := x2) t_a0 (f_X9_drops_29 K a0 x1 x2 n) ih hf

set_option maxHeartbeats 4000000 in
theorem v_X9_drops_0 {w : Wo} {K : Kn} {a0 : Nat} {x1 : Int32} {x2 : Int32} {q : (Int32 × Mem)} (t_a0 : K a0 = some (.inl 8)) {m : Mem} (hf : f_X9_drops K a0 x1 x2 m = some q) : VV w RX9 cX9_drops 5 (some .int) rm_X9_drops false (QM w K (some (.int q.1)) q.2 0 0) K 0 [some (.ref a0), some (.int x1), some (.int x2), none, none] [] 0 0 m := by
  unfold f_X9_drops at hf
  refine vv_aload_n 1 dX9_drops_0 rfl rfl ?_
  refine vv_iload_n 2 dX9_drops_1 rfl rfl ?_
  refine vv_iload_n 3 dX9_drops_2 rfl rfl ?_
  obtain ⟨q1, g_q1, hf⟩ := bind_s hf
  refine vv_callV 6 (st := []) (As := [.int x1, .int x2]) (stk2 := [.int q1]) (cl2 := 0) (sl2 := 0) dX9_drops_3 rfl lk_RX9_306 w_1402 w_51 rfl t_a0 ⟨(Nat.le_of_ble_eq_true rfl), (Nat.le_of_ble_eq_true rfl)⟩ rfl rfl ⟨(Nat.le_of_ble_eq_true rfl), (Nat.le_of_ble_eq_true rfl)⟩ rfl (Nat.le_of_ble_eq_true rfl) rfl rfl rfl rfl (c_X9_isBlock t_a0 g_q1) ?_
  refine vv_if_ne 12 9 dX9_drops_6 rfl (by decide) (fun c2 => ?_) (fun c2 => ?_)
  · rw [if_pos c2] at hf
    refine vv_bipush 11 (v := (-2)) dX9_drops_9 rfl (by decide) ?_
    obtain rfl := Option.some.inj hf
    exact vv_iret dX9_drops_11 rfl
  · rw [if_neg c2] at hf
    refine vv_aload_n 13 dX9_drops_12 rfl rfl ?_
    obtain ⟨b3, g_b3, hf⟩ := bind_s hf
    have t_b3 := (ldA_spec g_b3).2
    refine gf_RX9_16 16 dX9_drops_13 rfl t_a0 (ldA_spec g_b3).1 ?_
    refine vv_iload_n 17 dX9_drops_16 rfl rfl ?_
    refine vv_dup2 18 dX9_drops_17 rfl rfl rfl ?_
    obtain ⟨r4, g_r4, hf⟩ := bind_s hf
    refine vv_iald 19 dX9_drops_18 rfl t_b3 g_r4 ?_
    refine vv_iconst 20 (v := 1) dX9_drops_19 rfl (by decide) ?_
    refine vv_isub 21 dX9_drops_20 rfl ?_
    obtain ⟨m5, g_m5, hf⟩ := bind_s hf
    refine vv_iast 22 dX9_drops_21 rfl t_b3 g_m5 ?_
    refine vv_bipush 24 (v := 16) dX9_drops_22 rfl (by decide) ?_
    refine vv_iload_n 25 dX9_drops_24 rfl rfl ?_
    refine vv_imul 26 dX9_drops_25 rfl ?_
    refine vv_iload_n 27 dX9_drops_26 rfl rfl ?_
    refine vv_iadd 28 dX9_drops_27 rfl ?_
    obtain ⟨z6, e_z6, hf⟩ := bd_s hf
    refine vv_istore_nE (q := 29) (v := z6) (L' := [some (.ref a0), some (.int x1), some (.int x2), some (.int z6), none]) e_z6 dX9_drops_28 rfl (Nat.le_of_ble_eq_true rfl) rfl ?_
    exact VV.lle (v_X9_drops_29 t_a0 FU _ _ hf) (lle_s (lle_s (lle_n (lle_s (lle_s lle_nil)))))

theorem c_X9_drops {w : Wo} {K : Kn} {a0 : Nat} {x1 : Int32} {x2 : Int32} {q : (Int32 × Mem)} {m : Mem} (t_a0 : K a0 = some (.inl 8)) (hf : F_X9_drops K m a0 x1 x2 = some q) : MM w K K yX9_drops cX9_drops 5 (some .int) rm_X9_drops [.ref a0, .int x1, .int x2] m (some (.int q.1)) q.2 0 0 :=
  mm_of (ini := false) (n := 2) (plainFor_of_name (by decide)) rfl (fun h => by first | rfl | cases h) (Nat.le_of_ble_eq_true rfl) rfl (v_X9_drops_0 t_a0 hf)

set_option maxHeartbeats 4000000 in
theorem v_X9_least_151 {w : Wo} {K : Kn} {a0 : Nat} {x1 : Int32} {x2 : Int32} {x3 : Int32} {x4 : Int32} {q : (Int64 × Mem)} (t_a0 : K a0 = some (.inl 8)) (k50 : Mem → Int32 → Int32 → Int32 → Option (Int64 × Mem)) (hk50 : ∀ (m : Mem) (x5 : Int32) (x6 : Int32) (x7 : Int32), k50 m x5 x6 x7 = some q → VV w RX9 cX9_least 9 (some .long) rm_X9_least false (QM w K (some (.long q.1)) q.2 0 0) K 50 [some (.ref a0), none, none, none, some (.int x4), some (.int x5), some (.int x6), some (.int x7), none] [] 0 0 m) {m : Mem} {x5 : Int32} {x7 : Int32} {s0 : Int32} {s1 : Int32} (hf : f_X9_least_151 K a0 x1 x2 x3 x4 k50 m x5 x7 s0 s1 = some q) : VV w RX9 cX9_least 9 (some .long) rm_X9_least false (QM w K (some (.long q.1)) q.2 0 0) K 151 [some (.ref a0), none, none, none, some (.int x4), some (.int x5), none, some (.int x7), none] [.int s1, .int s0] 0 0 m := by
  unfold f_X9_least_151 at hf
  refine vv_iadd 152 dX9_least_151 rfl ?_
  obtain ⟨z1, e_z1, hf⟩ := bd_s hf
  refine vv_istoreE (q := 154) (v := z1) (L' := [some (.ref a0), none, none, none, some (.int x4), some (.int x5), some (.int z1), some (.int x7), none]) e_z1 dX9_least_152 rfl (Nat.le_of_ble_eq_true rfl) rfl ?_
  obtain ⟨z2, e_z2, hf⟩ := bd_s hf
  refine vv_iincE (q := 157) (v := z2) (c := 1) (L' := [some (.ref a0), none, none, none, some (.int x4), some (.int x5), some (.int z1), some (.int z2), none]) e_z2 dX9_least_154 rfl rfl (by decide) (Nat.le_of_ble_eq_true rfl) rfl ?_
  refine vv_goto 50 dX9_least_157 (by decide) ?_
  exact hk50 _ _ _ _ hf

set_option maxHeartbeats 4000000 in
theorem v_X9_least_137 {w : Wo} {K : Kn} {a0 : Nat} {x1 : Int32} {x2 : Int32} {x3 : Int32} {x4 : Int32} {q : (Int64 × Mem)} (t_a0 : K a0 = some (.inl 8)) (k50 : Mem → Int32 → Int32 → Int32 → Option (Int64 × Mem)) (hk50 : ∀ (m : Mem) (x5 : Int32) (x6 : Int32) (x7 : Int32), k50 m x5 x6 x7 = some q → VV w RX9 cX9_least 9 (some .long) rm_X9_least false (QM w K (some (.long q.1)) q.2 0 0) K 50 [some (.ref a0), none, none, none, some (.int x4), some (.int x5), some (.int x6), some (.int x7), none] [] 0 0 m) {m : Mem} {x5 : Int32} {x6 : Int32} {x7 : Int32} {s0 : Int32} (hf : f_X9_least_137 K a0 x1 x2 x3 x4 k50 m x5 x6 x7 s0 = some q) : VV w RX9 cX9_least 9 (some .long) rm_X9_least false (QM w K (some (.long q.1)) q.2 0 0) K 137 [some (.ref a0), none, none, none, some (.int x4), some (.int x5), some (.int x6), some (.int x7), none] [.int s0] 0 0 m := by
  unfold f_X9_least_137 at hf
  refine vv_istore 139 (L' := [some (.ref a0), none, none, none, some (.int x4), some (.int x5), some (.int x6), some (.int x7), some (.int s0)]) dX9_least_137 rfl (Nat.le_of_ble_eq_true rfl) rfl ?_
  refine vv_iload 141 dX9_least_139 rfl rfl ?_
  refine vv_iload 143 dX9_least_141 rfl rfl ?_
  refine vv_if_eq 150 146 dX9_least_143 rfl (by decide) (fun c1 => ?_) (fun c1 => ?_)
  · rw [if_pos c1] at hf
    refine vv_iconst 151 (v := 0) dX9_least_150 rfl (by decide) ?_
    exact VV.lle (v_X9_least_151 t_a0 k50 hk50 hf) (lle_s (lle_s (lle_s (lle_s (lle_s (lle_s (lle_n (lle_s (lle_n lle_nil)))))))))
  · rw [if_neg c1] at hf
    refine vv_iconst 147 (v := 1) dX9_least_146 rfl (by decide) ?_
    refine vv_goto 151 dX9_least_147 (by decide) ?_
    exact VV.lle (v_X9_least_151 t_a0 k50 hk50 hf) (lle_s (lle_s (lle_s (lle_s (lle_s (lle_s (lle_n (lle_s (lle_n lle_nil)))))))))

set_option maxHeartbeats 4000000 in
theorem v_X9_least_132 {w : Wo} {K : Kn} {a0 : Nat} {x1 : Int32} {x2 : Int32} {x3 : Int32} {x4 : Int32} {q : (Int64 × Mem)} (t_a0 : K a0 = some (.inl 8)) (k50 : Mem → Int32 → Int32 → Int32 → Option (Int64 × Mem)) (hk50 : ∀ (m : Mem) (x5 : Int32) (x6 : Int32) (x7 : Int32), k50 m x5 x6 x7 = some q → VV w RX9 cX9_least 9 (some .long) rm_X9_least false (QM w K (some (.long q.1)) q.2 0 0) K 50 [some (.ref a0), none, none, none, some (.int x4), some (.int x5), some (.int x6), some (.int x7), none] [] 0 0 m) {m : Mem} {x5 : Int32} {x6 : Int32} {x7 : Int32} (hf : f_X9_least_132 K a0 x1 x2 x3 x4 k50 m x5 x6 x7 = some q) : VV w RX9 cX9_least 9 (some .long) rm_X9_least false (QM w K (some (.long q.1)) q.2 0 0) K 132 [some (.ref a0), none, none, none, some (.int x4), some (.int x5), some (.int x6), some (.int x7), none] [] 0 0 m := by
  unfold f_X9_least_132 at hf
  refine vv_iconst 133 (v := 1) dX9_least_132 rfl (by decide) ?_
  refine vv_goto 137 dX9_least_133 (by decide) ?_
  exact v_X9_least_137 t_a0 k50 hk50 hf

set_option maxHeartbeats 4000000 in
theorem v_X9_least_136 {w : Wo} {K : Kn} {a0 : Nat} {x1 : Int32} {x2 : Int32} {x3 : Int32} {x4 : Int32} {q : (Int64 × Mem)} (t_a0 : K a0 = some (.inl 8)) (k50 : Mem → Int32 → Int32 → Int32 → Option (Int64 × Mem)) (hk50 : ∀ (m : Mem) (x5 : Int32) (x6 : Int32) (x7 : Int32), k50 m x5 x6 x7 = some q → VV w RX9 cX9_least 9 (some .long) rm_X9_least false (QM w K (some (.long q.1)) q.2 0 0) K 50 [some (.ref a0), none, none, none, some (.int x4), some (.int x5), some (.int x6), some (.int x7), none] [] 0 0 m) {m : Mem} {x5 : Int32} {x6 : Int32} {x7 : Int32} (hf : f_X9_least_136 K a0 x1 x2 x3 x4 k50 m x5 x6 x7 = some q) : VV w RX9 cX9_least 9 (some .long) rm_X9_least false (QM w K (some (.long q.1)) q.2 0 0) K 136 [some (.ref a0), none, none, none, some (.int x4), some (.int x5), some (.int x6), some (.int x7), none] [] 0 0 m := by
  unfold f_X9_least_136 at hf
  refine vv_iconst 137 (v := 0) dX9_least_136 rfl (by decide) ?_
  exact v_X9_least_137 t_a0 k50 hk50 hf

set_option maxHeartbeats 4000000 in
theorem v_X9_least_188 {w : Wo} {K : Kn} {a0 : Nat} {x1 : Int32} {x2 : Int32} {x3 : Int32} {x4 : Int32} {q : (Int64 × Mem)} (t_a0 : K a0 = some (.inl 8)) (k32 : Mem → Int32 → Option (Int64 × Mem)) (hk32 : ∀ (m : Mem) (x5 : Int32), k32 m x5 = some q → VV w RX9 cX9_least 9 (some .long) rm_X9_least false (QM w K (some (.long q.1)) q.2 0 0) K 32 [some (.ref a0), none, none, none, some (.int x4), some (.int x5), none, none, none] [] 0 0 m) {m : Mem} {x5 : Int32} (hf : f_X9_least_188 K a0 x1 x2 x3 x4 k32 m x5 = some q) : VV w RX9 cX9_least 9 (some .long) rm_X9_least false (QM w K (some (.long q.1)) q.2 0 0) K 188 [some (.ref a0), none, none, none, some (.int x4), some (.int x5), none, none, none] [] 0 0 m := by
  unfold f_X9_least_188 at hf
  obtain ⟨z1, e_z1, hf⟩ := bd_s hf
  refine vv_iincE (q := 191) (v := z1) (c := 1) (L' := [some (.ref a0), none, none, none, some (.int x4), some (.int z1), none, none, none]) e_z1 dX9_least_188 rfl rfl (by decide) (Nat.le_of_ble_eq_true rfl) rfl ?_
  refine vv_goto 32 dX9_least_191 (by decide) ?_
  exact hk32 _ _ hf

set_option maxHeartbeats 4000000 in
theorem v_X9_least_160 {w : Wo} {K : Kn} {a0 : Nat} {x1 : Int32} {x2 : Int32} {x3 : Int32} {x4 : Int32} {q : (Int64 × Mem)} (t_a0 : K a0 = some (.inl 8)) (k32 : Mem → Int32 → Option (Int64 × Mem)) (hk32 : ∀ (m : Mem) (x5 : Int32), k32 m x5 = some q → VV w RX9 cX9_least 9 (some .long) rm_X9_least false (QM w K (some (.long q.1)) q.2 0 0) K 32 [some (.ref a0), none, none, none, some (.int x4), some (.int x5), none, none, none] [] 0 0 m) {m : Mem} {x5 : Int32} {x6 : Int32} (hf : f_X9_least_160 K a0 x1 x2 x3 x4 k32 m x5 x6 = some q) : VV w RX9 cX9_least 9 (some .long) rm_X9_least false (QM w K (some (.long q.1)) q.2 0 0) K 160 [some (.ref a0), none, none, none, some (.int x4), some (.int x5), some (.int x6), none, none] [] 0 0 m := by
  unfold f_X9_least_160 at hf
  refine vv_aload_n 161 dX9_least_160 rfl rfl ?_
  obtain ⟨b1, g_b1, hf⟩ := bind_s hf
  have t_b1 := (ldA_spec g_b1).2
  refine gf_RX9_69 164 dX9_least_161 rfl t_a0 (ldA_spec g_b1).1 ?_
  refine vv_iload 166 dX9_least_164 rfl rfl ?_
  obtain ⟨r2, g_r2, hf⟩ := bind_s hf
  refine vv_lald 167 dX9_least_166 rfl t_b1 g_r2 ?_
  obtain ⟨q3, g_q3, hf⟩ := bind_s hf
  refine vv_callS 170 (st := []) (As := [.long r2]) (stk2 := [.int q3]) (cl2 := 0) (sl2 := 0) dX9_least_167 rfl lk_RX9_355 w_1507 ⟨(Nat.le_of_ble_eq_true rfl), (Nat.le_of_ble_eq_true rfl)⟩ rfl rfl ⟨(Nat.le_of_ble_eq_true rfl), (Nat.le_of_ble_eq_true rfl)⟩ rfl (Nat.le_of_ble_eq_true rfl) rfl rfl rfl rfl (c_X9_isNumber g_q3) ?_
  refine vv_if_eq 188 173 dX9_least_170 rfl (by decide) (fun c4 => ?_) (fun c4 => ?_)
  · rw [if_pos c4] at hf
    exact VV.lle (v_X9_least_188 t_a0 k32 hk32 hf) (lle_s (lle_s (lle_s (lle_s (lle_s (lle_s (lle_n (lle_s (lle_s lle_nil)))))))))
  · rw [if_neg c4] at hf
    refine vv_iload 175 dX9_least_173 rfl rfl ?_
    refine vv_iload 177 dX9_least_175 rfl rfl ?_
    refine vv_icmp_ne 188 180 dX9_least_177 rfl (by decide) (fun c5 => ?_) (fun c5 => ?_)
    · rw [if_pos c5] at hf
      refine vv_aload_n 181 dX9_least_180 rfl rfl ?_
      obtain ⟨b6, g_b6, hf⟩ := bind_s hf
      have t_b6 := (ldA_spec g_b6).2
      refine gf_RX9_69 184 dX9_least_181 rfl t_a0 (ldA_spec g_b6).1 ?_
      refine vv_iload 186 dX9_least_184 rfl rfl ?_
      obtain ⟨r7, g_r7, hf⟩ := bind_s hf
      refine vv_lald 187 dX9_least_186 rfl t_b6 g_r7 ?_
      obtain rfl := Option.some.inj hf
      exact vv_lret dX9_least_187 rfl
    · rw [if_neg c5] at hf
      exact VV.lle (v_X9_least_188 t_a0 k32 hk32 hf) (lle_s (lle_s (lle_s (lle_s (lle_s (lle_s (lle_n (lle_s (lle_s lle_nil)))))))))

set_option maxHeartbeats 4000000 in
theorem v_X9_least_50B {w : Wo} {K : Kn} {a0 : Nat} {x1 : Int32} {x2 : Int32} {x3 : Int32} {x4 : Int32} {q : (Int64 × Mem)} (t_a0 : K a0 = some (.inl 8)) (k32 : Mem → Int32 → Option (Int64 × Mem)) (hk32 : ∀ (m : Mem) (x5 : Int32), k32 m x5 = some q → VV w RX9 cX9_least 9 (some .long) rm_X9_least false (QM w K (some (.long q.1)) q.2 0 0) K 32 [some (.ref a0), none, none, none, some (.int x4), some (.int x5), none, none, none] [] 0 0 m) (k50 : Mem → Int32 → Int32 → Int32 → Option (Int64 × Mem)) (hk50 : ∀ (m : Mem) (x5 : Int32) (x6 : Int32) (x7 : Int32), k50 m x5 x6 x7 = some q → VV w RX9 cX9_least 9 (some .long) rm_X9_least false (QM w K (some (.long q.1)) q.2 0 0) K 50 [some (.ref a0), none, none, none, some (.int x4), some (.int x5), some (.int x6), some (.int x7), none] [] 0 0 m) {m : Mem} {x5 : Int32} {x6 : Int32} {x7 : Int32} (hf : f_X9_least_50B K a0 x1 x2 x3 x4 k32 k50 m x5 x6 x7 = some q) : VV w RX9 cX9_least 9 (some .long) rm_X9_least false (QM w K (some (.long q.1)) q.2 0 0) K 50 [some (.ref a0), none, none, none, some (.int x4), some (.int x5), some (.int x6), some (.int x7), none] [] 0 0 m := by
  unfold f_X9_least_50B at hf
  refine vv_iload 52 dX9_least_50 rfl rfl ?_
  refine vv_aload_n 53 dX9_least_52 rfl rfl ?_
  refine gf_RX9_340 56 dX9_least_53 rfl t_a0 ?_
  refine vv_icmp_ge 160 59 dX9_least_56 rfl (by decide) (fun c1 => ?_) (fun c1 => ?_)
  · rw [if_pos c1] at hf
    exact VV.lle (v_X9_least_160 t_a0 k32 hk32 hf) (lle_s (lle_s (lle_s (lle_s (lle_s (lle_s (lle_s (lle_n (lle_s lle_nil)))))))))
  · rw [if_neg c1] at hf
    refine vv_aload_n 60 dX9_least_59 rfl rfl ?_
    obtain ⟨b2, g_b2, hf⟩ := bind_s hf
    have t_b2 := (ldA_spec g_b2).2
    refine gf_RX9_69 63 dX9_least_60 rfl t_a0 (ldA_spec g_b2).1 ?_
    refine vv_iload 65 dX9_least_63 rfl rfl ?_
    obtain ⟨r3, g_r3, hf⟩ := bind_s hf
    refine vv_lald 66 dX9_least_65 rfl t_b2 g_r3 ?_
    obtain ⟨q4, g_q4, hf⟩ := bind_s hf
    refine vv_callS 69 (st := []) (As := [.long r3]) (stk2 := [.int q4]) (cl2 := 0) (sl2 := 0) dX9_least_66 rfl lk_RX9_355 w_1507 ⟨(Nat.le_of_ble_eq_true rfl), (Nat.le_of_ble_eq_true rfl)⟩ rfl rfl ⟨(Nat.le_of_ble_eq_true rfl), (Nat.le_of_ble_eq_true rfl)⟩ rfl (Nat.le_of_ble_eq_true rfl) rfl rfl rfl rfl (c_X9_isNumber g_q4) ?_
    refine vv_if_eq 160 72 dX9_least_69 rfl (by decide) (fun c5 => ?_) (fun c5 => ?_)
    · rw [if_pos c5] at hf
      exact VV.lle (v_X9_least_160 t_a0 k32 hk32 hf) (lle_s (lle_s (lle_s (lle_s (lle_s (lle_s (lle_s (lle_n (lle_s lle_nil)))))))))
    · rw [if_neg c5] at hf
      refine vv_aload_n 73 dX9_least_72 rfl rfl ?_
      obtain ⟨b6, g_b6, hf⟩ := bind_s hf
      have t_b6 := (ldA_spec g_b6).2
      refine gf_RX9_69 76 dX9_least_73 rfl t_a0 (ldA_spec g_b6).1 ?_
      refine vv_iload 78 dX9_least_76 rfl rfl ?_
      obtain ⟨r7, g_r7, hf⟩ := bind_s hf
      refine vv_lald 79 dX9_least_78 rfl t_b6 g_r7 ?_
      obtain ⟨q8, g_q8, hf⟩ := bind_s hf
      refine vv_callS 82 (st := []) (As := [.long r7]) (stk2 := [.int q8]) (cl2 := 0) (sl2 := 0) dX9_least_79 rfl lk_RX9_355 w_1507 ⟨(Nat.le_of_ble_eq_true rfl), (Nat.le_of_ble_eq_true rfl)⟩ rfl rfl ⟨(Nat.le_of_ble_eq_true rfl), (Nat.le_of_ble_eq_true rfl)⟩ rfl (Nat.le_of_ble_eq_true rfl) rfl rfl rfl rfl (c_X9_isNumber g_q8) ?_
      refine vv_if_eq 136 85 dX9_least_82 rfl (by decide) (fun c9 => ?_) (fun c9 => ?_)
      · rw [if_pos c9] at hf
        exact v_X9_least_136 t_a0 k50 hk50 hf
      · rw [if_neg c9] at hf
        refine vv_aload_n 86 dX9_least_85 rfl rfl ?_
        obtain ⟨b10, g_b10, hf⟩ := bind_s hf
        have t_b10 := (ldA_spec g_b10).2
        refine gf_RX9_69 89 dX9_least_86 rfl t_a0 (ldA_spec g_b10).1 ?_
        refine vv_iload 91 dX9_least_89 rfl rfl ?_
        obtain ⟨r11, g_r11, hf⟩ := bind_s hf
        refine vv_lald 92 dX9_least_91 rfl t_b10 g_r11 ?_
        refine vv_aload_n 93 dX9_least_92 rfl rfl ?_
        obtain ⟨b12, g_b12, hf⟩ := bind_s hf
        have t_b12 := (ldA_spec g_b12).2
        refine gf_RX9_69 96 dX9_least_93 rfl t_a0 (ldA_spec g_b12).1 ?_
        refine vv_iload 98 dX9_least_96 rfl rfl ?_
        obtain ⟨r13, g_r13, hf⟩ := bind_s hf
        refine vv_lald 99 dX9_least_98 rfl t_b12 g_r13 ?_
        obtain ⟨q14, g_q14, hf⟩ := bind_s hf
        refine vv_callS 102 (st := []) (As := [.long r11, .long r13]) (stk2 := [.int q14]) (cl2 := 0) (sl2 := 0) dX9_least_99 rfl lk_RX9_375 w_1519 ⟨(Nat.le_of_ble_eq_true rfl), (Nat.le_of_ble_eq_true rfl)⟩ rfl rfl ⟨(Nat.le_of_ble_eq_true rfl), (Nat.le_of_ble_eq_true rfl)⟩ rfl (Nat.le_of_ble_eq_true rfl) rfl rfl rfl rfl (c_X9_isLess g_q14) ?_
        refine vv_if_ne 132 105 dX9_least_102 rfl (by decide) (fun c15 => ?_) (fun c15 => ?_)
        · rw [if_pos c15] at hf
          refine vv_iload 107 dX9_least_105 rfl rfl ?_
          refine vv_iload 109 dX9_least_107 rfl rfl ?_
          refine vv_icmp_ge 136 112 dX9_least_109 rfl (by decide) (fun c16 => ?_) (fun c16 => ?_)
          · rw [if_pos c16] at hf
            exact v_X9_least_136 t_a0 k50 hk50 hf
          · rw [if_neg c16] at hf
            refine vv_aload_n 113 dX9_least_112 rfl rfl ?_
            obtain ⟨b17, g_b17, hf⟩ := bind_s hf
            have t_b17 := (ldA_spec g_b17).2
            refine gf_RX9_69 116 dX9_least_113 rfl t_a0 (ldA_spec g_b17).1 ?_
            refine vv_iload 118 dX9_least_116 rfl rfl ?_
            obtain ⟨r18, g_r18, hf⟩ := bind_s hf
            refine vv_lald 119 dX9_least_118 rfl t_b17 g_r18 ?_
            refine vv_aload_n 120 dX9_least_119 rfl rfl ?_
            obtain ⟨b19, g_b19, hf⟩ := bind_s hf
            have t_b19 := (ldA_spec g_b19).2
            refine gf_RX9_69 123 dX9_least_120 rfl t_a0 (ldA_spec g_b19).1 ?_
            refine vv_iload 125 dX9_least_123 rfl rfl ?_
            obtain ⟨r20, g_r20, hf⟩ := bind_s hf
            refine vv_lald 126 dX9_least_125 rfl t_b19 g_r20 ?_
            obtain ⟨q21, g_q21, hf⟩ := bind_s hf
            refine vv_callS 129 (st := []) (As := [.long r18, .long r20]) (stk2 := [.int q21]) (cl2 := 0) (sl2 := 0) dX9_least_126 rfl lk_RX9_375 w_1519 ⟨(Nat.le_of_ble_eq_true rfl), (Nat.le_of_ble_eq_true rfl)⟩ rfl rfl ⟨(Nat.le_of_ble_eq_true rfl), (Nat.le_of_ble_eq_true rfl)⟩ rfl (Nat.le_of_ble_eq_true rfl) rfl rfl rfl rfl (c_X9_isLess g_q21) ?_
            refine vv_if_ne 136 132 dX9_least_129 rfl (by decide) (fun c22 => ?_) (fun c22 => ?_)
            · rw [if_pos c22] at hf
              exact v_X9_least_132 t_a0 k50 hk50 hf
            · rw [if_neg c22] at hf
              exact v_X9_least_136 t_a0 k50 hk50 hf
        · rw [if_neg c15] at hf
          exact v_X9_least_132 t_a0 k50 hk50 hf

theorem v_X9_least_50 {w : Wo} {K : Kn} {a0 : Nat} {x1 : Int32} {x2 : Int32} {x3 : Int32} {x4 : Int32} {q : (Int64 × Mem)} (t_a0 : K a0 = some (.inl 8)) (k32 : Mem → Int32 → Option (Int64 × Mem)) (hk32 : ∀ (m : Mem) (x5 : Int32), k32 m x5 = some q → VV w RX9 cX9_least 9 (some .long) rm_X9_least false (QM w K (some (.long q.1)) q.2 0 0) K 32 [some (.ref a0), none, none, none, some (.int x4), some (.int x5), none, none, none] [] 0 0 m) : ∀ (n : Nat) (m : Mem) (x5 : Int32) (x6 : Int32) (x7 : Int32), f_X9_least_50 K a0 x1 x2 x3 x4 k32 n m x5 x6 x7 = some q → VV w RX9 cX9_least 9 (some .long) rm_X9_least false (QM w K (some (.long q.1)) q.2 0 0) K 50 [some (.ref a0), none, none, none, some (.int x4), some (.int x5), some (.int x6), some (.int x7), none] [] 0 0 m := by
  intro n
  induction n with
  | zero => intro m x5 x6 x7 hf; cases hf
  | succ n ih => intro m x5 x6 x7 hf; exact v_X9_least_50B (a0 := a0) (x1 := x1) (x2 := x2) (x3 := x3) (x4 := x4) t_a0 k32 hk32 (f_X9_least_50 K a0 x1 x2 x3 x4 k32 n) ih hf

set_option maxHeartbeats 4000000 in
theorem v_X9_least_32B {w : Wo} {K : Kn} {a0 : Nat} {x1 : Int32} {x2 : Int32} {x3 : Int32} {x4 : Int32} {q : (Int64 × Mem)} (t_a0 : K a0 = some (.inl 8)) (k32 : Mem → Int32 → Option (Int64 × Mem)) (hk32 : ∀ (m : Mem) (x5 : Int32), k32 m x5 = some q → VV w RX9 cX9_least 9 (some .long) rm_X9_least false (QM w K (some (.long q.1)) q.2 0 0) K 32 [some (.ref a0), none, none, none, some (.int x4), some (.int x5), none, none, none] [] 0 0 m) {m : Mem} {x5 : Int32} (hf : f_X9_least_32B K a0 x1 x2 x3 x4 k32 m x5 = some q) : VV w RX9 cX9_least 9 (some .long) rm_X9_least false (QM w K (some (.long q.1)) q.2 0 0) K 32 [some (.ref a0), none, none, none, some (.int x4), some (.int x5), none, none, none] [] 0 0 m := by
  unfold f_X9_least_32B at hf
  refine vv_iload 34 dX9_least_32 rfl rfl ?_
  refine vv_aload_n 35 dX9_least_34 rfl rfl ?_
  refine gf_RX9_340 38 dX9_least_35 rfl t_a0 ?_
  refine vv_icmp_ge 194 41 dX9_least_38 rfl (by decide) (fun c1 => ?_) (fun c1 => ?_)
  · rw [if_pos c1] at hf
    refine vv_ldc2 197 (v := 9221120237041090560) dX9_least_194 rfl w_1517 ?_
    obtain rfl := Option.some.inj hf
    exact vv_lret dX9_least_197 rfl
  · rw [if_neg c1] at hf
    refine vv_iconst 42 (v := 0) dX9_least_41 rfl (by decide) ?_
    refine vv_istore 44 (L' := [some (.ref a0), none, none, none, some (.int x4), some (.int x5), some (.int (0 : Int32)), none, none]) dX9_least_42 rfl (Nat.le_of_ble_eq_true rfl) rfl ?_
    refine vv_aload_n 45 dX9_least_44 rfl rfl ?_
    refine gf_RX9_337 48 dX9_least_45 rfl t_a0 ?_
    obtain ⟨z2, e_z2, hf⟩ := bd_s hf
    refine vv_istoreE (q := 50) (v := z2) (L' := [some (.ref a0), none, none, none, some (.int x4), some (.int x5), some (.int (0 : Int32)), some (.int z2), none]) e_z2 dX9_least_48 rfl (Nat.le_of_ble_eq_true rfl) rfl ?_
    exact v_X9_least_50 t_a0 k32 hk32 FU _ _ _ _ hf

theorem v_X9_least_32 {w : Wo} {K : Kn} {a0 : Nat} {x1 : Int32} {x2 : Int32} {x3 : Int32} {x4 : Int32} {q : (Int64 × Mem)} (t_a0 : K a0 = some (.inl 8)) : ∀ (n : Nat) (m : Mem) (x5 : Int32), f_X9_least_32 K a0 x1 x2 x3 x4 n m x5 = some q → VV w RX9 cX9_least 9 (some .long) rm_X9_least false (QM w K (some (.long q.1)) q.2 0 0) K 32 [some (.ref a0), none, none, none, some (.int x4), some (.int x5), none, none, none] [] 0 0 m := by
  intro n
  induction n with
  | zero => intro m x5 hf; cases hf
  | succ n ih => intro m x5 hf; exact v_X9_least_32B (a0 := a0) (x1 := x1) (x2 := x2) (x3 := x3) (x4 := x4) t_a0 (f_X9_least_32 K a0 x1 x2 x3 x4 n) ih hf

set_option maxHeartbeats 4000000 in
theorem v_X9_least_0 {w : Wo} {K : Kn} {a0 : Nat} {x1 : Int32} {x2 : Int32} {x3 : Int32} {x4 : Int32} {q : (Int64 × Mem)} (t_a0 : K a0 = some (.inl 8)) {m : Mem} (hf : f_X9_least K a0 x1 x2 x3 x4 m = some q) : VV w RX9 cX9_least 9 (some .long) rm_X9_least false (QM w K (some (.long q.1)) q.2 0 0) K 0 [some (.ref a0), some (.int x1), some (.int x2), some (.int x3), some (.int x4), none, none, none, none] [] 0 0 m := by
  unfold f_X9_least at hf
  refine vv_aload_n 1 dX9_least_0 rfl rfl ?_
  refine vv_iload_n 2 dX9_least_1 rfl rfl ?_
  refine vv_iload_n 3 dX9_least_2 rfl rfl ?_
  refine vv_iload_n 4 dX9_least_3 rfl rfl ?_
  obtain ⟨q1, g_q1, hf⟩ := bind_s hf
  refine vv_callV 7 (st := []) (As := [.int x1, .int x2, .int x3]) (stk2 := [.int q1]) (cl2 := 0) (sl2 := 0) dX9_least_4 rfl lk_RX9_343 w_1496 w_56 rfl t_a0 ⟨(Nat.le_of_ble_eq_true rfl), (Nat.le_of_ble_eq_true rfl)⟩ rfl rfl ⟨(Nat.le_of_ble_eq_true rfl), (Nat.le_of_ble_eq_true rfl)⟩ rfl (Nat.le_of_ble_eq_true rfl) rfl rfl rfl rfl (c_X9_isSpan t_a0 g_q1) ?_
  refine vv_if_eq 15 10 dX9_least_7 rfl (by decide) (fun c2 => ?_) (fun c2 => ?_)
  · rw [if_pos c2] at hf
    refine vv_ldc2 18 (v := 9221120237041090560) dX9_least_15 rfl w_1517 ?_
    obtain rfl := Option.some.inj hf
    exact vv_lret dX9_least_18 rfl
  · rw [if_neg c2] at hf
    refine vv_iload 12 dX9_least_10 rfl rfl ?_
    refine vv_if_ge 19 15 dX9_least_12 rfl (by decide) (fun c3 => ?_) (fun c3 => ?_)
    · rw [if_pos c3] at hf
      refine vv_aload_n 20 dX9_least_19 rfl rfl ?_
      refine vv_iload_n 21 dX9_least_20 rfl rfl ?_
      refine vv_iload_n 22 dX9_least_21 rfl rfl ?_
      refine vv_iload_n 23 dX9_least_22 rfl rfl ?_
      obtain ⟨q4, g_q4, hf⟩ := bind_s hf
      refine vv_callV 26 (st := []) (As := [.int x1, .int x2, .int x3]) (stk2 := []) (cl2 := 0) (sl2 := 0) dX9_least_23 rfl lk_RX9_351 w_1504 w_58 rfl t_a0 ⟨(Nat.le_of_ble_eq_true rfl), (Nat.le_of_ble_eq_true rfl)⟩ rfl rfl ⟨(Nat.le_of_ble_eq_true rfl), (Nat.le_of_ble_eq_true rfl)⟩ rfl (Nat.le_of_ble_eq_true rfl) rfl rfl rfl rfl (c_X9_laysSpan t_a0 g_q4) ?_
      refine vv_aload_n 27 dX9_least_26 rfl rfl ?_
      refine gf_RX9_337 30 dX9_least_27 rfl t_a0 ?_
      obtain ⟨z5, e_z5, hf⟩ := bd_s hf
      refine vv_istoreE (q := 32) (v := z5) (L' := [some (.ref a0), some (.int x1), some (.int x2), some (.int x3), some (.int x4), some (.int z5), none, none, none]) e_z5 dX9_least_30 rfl (Nat.le_of_ble_eq_true rfl) rfl ?_
      exact VV.lle (v_X9_least_32 t_a0 FU _ _ hf) (lle_s (lle_n (lle_n (lle_n (lle_s (lle_s (lle_s (lle_s (lle_s lle_nil)))))))))
    · rw [if_neg c3] at hf
      refine vv_ldc2 18 (v := 9221120237041090560) dX9_least_15 rfl w_1517 ?_
      obtain rfl := Option.some.inj hf
      exact vv_lret dX9_least_18 rfl

theorem c_X9_least {w : Wo} {K : Kn} {a0 : Nat} {x1 : Int32} {x2 : Int32} {x3 : Int32} {x4 : Int32} {q : (Int64 × Mem)} {m : Mem} (t_a0 : K a0 = some (.inl 8)) (hf : F_X9_least K m a0 x1 x2 x3 x4 = some q) : MM w K K yX9_least cX9_least 9 (some .long) rm_X9_least [.ref a0, .int x1, .int x2, .int x3, .int x4] m (some (.long q.1)) q.2 0 0 :=
  mm_of (ini := false) (n := 4) (plainFor_of_name (by decide)) rfl (fun h => by first | rfl | cases h) (Nat.le_of_ble_eq_true rfl) rfl (v_X9_least_0 t_a0 hf)

set_option maxHeartbeats 4000000 in
theorem v_X9_passes_114 {w : Wo} {K : Kn} {a0 : Nat} {x1 : Int32} {x2 : Int64} {q : (Int32 × Mem)} (t_a0 : K a0 = some (.inl 8)) (k31 : Mem → Int32 → Int32 → Option (Int32 × Mem)) (hk31 : ∀ (m : Mem) (x4 : Int32) (x5 : Int32), k31 m x4 x5 = some q → VV w RX9 cX9_passes 7 (some .int) rm_X9_passes false (QM w K (some (.int q.1)) q.2 0 0) K 31 [some (.ref a0), none, some (.long x2), none, some (.int x4), some (.int x5), none] [] 0 0 m) {m : Mem} {x5 : Int32} {s0 : Int32} {s1 : Int32} (hf : f_X9_passes_114 K a0 x1 x2 k31 m x5 s0 s1 = some q) : VV w RX9 cX9_passes 7 (some .int) rm_X9_passes false (QM w K (some (.int q.1)) q.2 0 0) K 114 [some (.ref a0), none, some (.long x2), none, none, some (.int x5), none] [.int s1, .int s0] 0 0 m := by
  unfold f_X9_passes_114 at hf
  refine vv_iadd 115 dX9_passes_114 rfl ?_
  obtain ⟨z1, e_z1, hf⟩ := bd_s hf
  refine vv_istoreE (q := 117) (v := z1) (L' := [some (.ref a0), none, some (.long x2), none, some (.int z1), some (.int x5), none]) e_z1 dX9_passes_115 rfl (Nat.le_of_ble_eq_true rfl) rfl ?_
  obtain ⟨z2, e_z2, hf⟩ := bd_s hf
  refine vv_iincE (q := 120) (v := z2) (c := 1) (L' := [some (.ref a0), none, some (.long x2), none, some (.int z1), some (.int z2), none]) e_z2 dX9_passes_117 rfl rfl (by decide) (Nat.le_of_ble_eq_true rfl) rfl ?_
  refine vv_goto 31 dX9_passes_120 (by decide) ?_
  exact hk31 _ _ _ hf

set_option maxHeartbeats 4000000 in
theorem v_X9_passes_113 {w : Wo} {K : Kn} {a0 : Nat} {x1 : Int32} {x2 : Int64} {q : (Int32 × Mem)} (t_a0 : K a0 = some (.inl 8)) (k31 : Mem → Int32 → Int32 → Option (Int32 × Mem)) (hk31 : ∀ (m : Mem) (x4 : Int32) (x5 : Int32), k31 m x4 x5 = some q → VV w RX9 cX9_passes 7 (some .int) rm_X9_passes false (QM w K (some (.int q.1)) q.2 0 0) K 31 [some (.ref a0), none, some (.long x2), none, some (.int x4), some (.int x5), none] [] 0 0 m) {m : Mem} {x5 : Int32} {s0 : Int32} (hf : f_X9_passes_113 K a0 x1 x2 k31 m x5 s0 = some q) : VV w RX9 cX9_passes 7 (some .int) rm_X9_passes false (QM w K (some (.int q.1)) q.2 0 0) K 113 [some (.ref a0), none, some (.long x2), none, none, some (.int x5), none] [.int s0] 0 0 m := by
  unfold f_X9_passes_113 at hf
  refine vv_iconst 114 (v := 0) dX9_passes_113 rfl (by decide) ?_
  exact v_X9_passes_114 t_a0 k31 hk31 hf

set_option maxHeartbeats 4000000 in
theorem v_X9_passes_73 {w : Wo} {K : Kn} {a0 : Nat} {x1 : Int32} {x2 : Int64} {q : (Int32 × Mem)} (t_a0 : K a0 = some (.inl 8)) (k31 : Mem → Int32 → Int32 → Option (Int32 × Mem)) (hk31 : ∀ (m : Mem) (x4 : Int32) (x5 : Int32), k31 m x4 x5 = some q → VV w RX9 cX9_passes 7 (some .int) rm_X9_passes false (QM w K (some (.int q.1)) q.2 0 0) K 31 [some (.ref a0), none, some (.long x2), none, some (.int x4), some (.int x5), none] [] 0 0 m) {m : Mem} {x4 : Int32} {x5 : Int32} {s0 : Int32} (hf : f_X9_passes_73 K a0 x1 x2 k31 m x4 x5 s0 = some q) : VV w RX9 cX9_passes 7 (some .int) rm_X9_passes false (QM w K (some (.int q.1)) q.2 0 0) K 73 [some (.ref a0), none, some (.long x2), none, some (.int x4), some (.int x5), none] [.int s0] 0 0 m := by
  unfold f_X9_passes_73 at hf
  refine vv_istore 75 (L' := [some (.ref a0), none, some (.long x2), none, some (.int x4), some (.int x5), some (.int s0)]) dX9_passes_73 rfl (Nat.le_of_ble_eq_true rfl) rfl ?_
  refine vv_iload 77 dX9_passes_75 rfl rfl ?_
  refine vv_iload 79 dX9_passes_77 rfl rfl ?_
  refine vv_if_eq 113 82 dX9_passes_79 rfl (by decide) (fun c1 => ?_) (fun c1 => ?_)
  · rw [if_pos c1] at hf
    exact VV.lle (v_X9_passes_113 t_a0 k31 hk31 hf) (lle_s (lle_s (lle_s (lle_s (lle_n (lle_s (lle_n lle_nil)))))))
  · rw [if_neg c1] at hf
    refine vv_aload_n 83 dX9_passes_82 rfl rfl ?_
    obtain ⟨b2, g_b2, hf⟩ := bind_s hf
    have t_b2 := (ldA_spec g_b2).2
    refine gf_RX9_69 86 dX9_passes_83 rfl t_a0 (ldA_spec g_b2).1 ?_
    refine vv_iload 88 dX9_passes_86 rfl rfl ?_
    obtain ⟨r3, g_r3, hf⟩ := bind_s hf
    refine vv_lald 89 dX9_passes_88 rfl t_b2 g_r3 ?_
    refine vv_lload_n 90 dX9_passes_89 rfl rfl ?_
    obtain ⟨q4, g_q4, hf⟩ := bind_s hf
    refine vv_callS 93 (st := [.int x4]) (As := [.long r3, .long x2]) (stk2 := [.int q4, .int x4]) (cl2 := 0) (sl2 := 0) dX9_passes_90 rfl lk_RX9_375 w_1519 ⟨(Nat.le_of_ble_eq_true rfl), (Nat.le_of_ble_eq_true rfl)⟩ rfl rfl ⟨(Nat.le_of_ble_eq_true rfl), (Nat.le_of_ble_eq_true rfl)⟩ rfl (Nat.le_of_ble_eq_true rfl) rfl rfl rfl rfl (c_X9_isLess g_q4) ?_
    refine vv_aload_n 94 dX9_passes_93 rfl rfl ?_
    obtain ⟨b5, g_b5, hf⟩ := bind_s hf
    have t_b5 := (ldA_spec g_b5).2
    refine gf_RX9_69 97 dX9_passes_94 rfl t_a0 (ldA_spec g_b5).1 ?_
    refine vv_iload 99 dX9_passes_97 rfl rfl ?_
    refine vv_iconst 100 (v := 1) dX9_passes_99 rfl (by decide) ?_
    refine vv_isub 101 dX9_passes_100 rfl ?_
    obtain ⟨r6, g_r6, hf⟩ := bind_s hf
    refine vv_lald 102 dX9_passes_101 rfl t_b5 g_r6 ?_
    refine vv_lload_n 103 dX9_passes_102 rfl rfl ?_
    obtain ⟨q7, g_q7, hf⟩ := bind_s hf
    refine vv_callS 106 (st := [.int q4, .int x4]) (As := [.long r6, .long x2]) (stk2 := [.int q7, .int q4, .int x4]) (cl2 := 0) (sl2 := 0) dX9_passes_103 rfl lk_RX9_375 w_1519 ⟨(Nat.le_of_ble_eq_true rfl), (Nat.le_of_ble_eq_true rfl)⟩ rfl rfl ⟨(Nat.le_of_ble_eq_true rfl), (Nat.le_of_ble_eq_true rfl)⟩ rfl (Nat.le_of_ble_eq_true rfl) rfl rfl rfl rfl (c_X9_isLess g_q7) ?_
    refine vv_icmp_eq 113 109 dX9_passes_106 rfl (by decide) (fun c8 => ?_) (fun c8 => ?_)
    · rw [if_pos c8] at hf
      exact VV.lle (v_X9_passes_113 t_a0 k31 hk31 hf) (lle_s (lle_s (lle_s (lle_s (lle_n (lle_s (lle_n lle_nil)))))))
    · rw [if_neg c8] at hf
      refine vv_iconst 110 (v := 1) dX9_passes_109 rfl (by decide) ?_
      refine vv_goto 114 dX9_passes_110 (by decide) ?_
      exact VV.lle (v_X9_passes_114 t_a0 k31 hk31 hf) (lle_s (lle_s (lle_s (lle_s (lle_n (lle_s (lle_n lle_nil)))))))

set_option maxHeartbeats 4000000 in
theorem v_X9_passes_72 {w : Wo} {K : Kn} {a0 : Nat} {x1 : Int32} {x2 : Int64} {q : (Int32 × Mem)} (t_a0 : K a0 = some (.inl 8)) (k31 : Mem → Int32 → Int32 → Option (Int32 × Mem)) (hk31 : ∀ (m : Mem) (x4 : Int32) (x5 : Int32), k31 m x4 x5 = some q → VV w RX9 cX9_passes 7 (some .int) rm_X9_passes false (QM w K (some (.int q.1)) q.2 0 0) K 31 [some (.ref a0), none, some (.long x2), none, some (.int x4), some (.int x5), none] [] 0 0 m) {m : Mem} {x4 : Int32} {x5 : Int32} (hf : f_X9_passes_72 K a0 x1 x2 k31 m x4 x5 = some q) : VV w RX9 cX9_passes 7 (some .int) rm_X9_passes false (QM w K (some (.int q.1)) q.2 0 0) K 72 [some (.ref a0), none, some (.long x2), none, some (.int x4), some (.int x5), none] [] 0 0 m := by
  unfold f_X9_passes_72 at hf
  refine vv_iconst 73 (v := 0) dX9_passes_72 rfl (by decide) ?_
  exact v_X9_passes_73 t_a0 k31 hk31 hf

set_option maxHeartbeats 4000000 in
theorem v_X9_passes_31B {w : Wo} {K : Kn} {a0 : Nat} {x1 : Int32} {x2 : Int64} {q : (Int32 × Mem)} (t_a0 : K a0 = some (.inl 8)) (k31 : Mem → Int32 → Int32 → Option (Int32 × Mem)) (hk31 : ∀ (m : Mem) (x4 : Int32) (x5 : Int32), k31 m x4 x5 = some q → VV w RX9 cX9_passes 7 (some .int) rm_X9_passes false (QM w K (some (.int q.1)) q.2 0 0) K 31 [some (.ref a0), none, some (.long x2), none, some (.int x4), some (.int x5), none] [] 0 0 m) {m : Mem} {x4 : Int32} {x5 : Int32} (hf : f_X9_passes_31B K a0 x1 x2 k31 m x4 x5 = some q) : VV w RX9 cX9_passes 7 (some .int) rm_X9_passes false (QM w K (some (.int q.1)) q.2 0 0) K 31 [some (.ref a0), none, some (.long x2), none, some (.int x4), some (.int x5), none] [] 0 0 m := by
  unfold f_X9_passes_31B at hf
  refine vv_iload 33 dX9_passes_31 rfl rfl ?_
  refine vv_aload_n 34 dX9_passes_33 rfl rfl ?_
  refine gf_RX9_248 37 dX9_passes_34 rfl t_a0 ?_
  refine vv_icmp_ge 123 40 dX9_passes_37 rfl (by decide) (fun c1 => ?_) (fun c1 => ?_)
  · rw [if_pos c1] at hf
    refine vv_iload 125 dX9_passes_123 rfl rfl ?_
    obtain rfl := Option.some.inj hf
    exact vv_iret dX9_passes_125 rfl
  · rw [if_neg c1] at hf
    refine vv_aload_n 41 dX9_passes_40 rfl rfl ?_
    obtain ⟨b2, g_b2, hf⟩ := bind_s hf
    have t_b2 := (ldA_spec g_b2).2
    refine gf_RX9_69 44 dX9_passes_41 rfl t_a0 (ldA_spec g_b2).1 ?_
    refine vv_iload 46 dX9_passes_44 rfl rfl ?_
    obtain ⟨r3, g_r3, hf⟩ := bind_s hf
    refine vv_lald 47 dX9_passes_46 rfl t_b2 g_r3 ?_
    obtain ⟨q4, g_q4, hf⟩ := bind_s hf
    refine vv_callS 50 (st := []) (As := [.long r3]) (stk2 := [.int q4]) (cl2 := 0) (sl2 := 0) dX9_passes_47 rfl lk_RX9_355 w_1507 ⟨(Nat.le_of_ble_eq_true rfl), (Nat.le_of_ble_eq_true rfl)⟩ rfl rfl ⟨(Nat.le_of_ble_eq_true rfl), (Nat.le_of_ble_eq_true rfl)⟩ rfl (Nat.le_of_ble_eq_true rfl) rfl rfl rfl rfl (c_X9_isNumber g_q4) ?_
    refine vv_if_eq 72 53 dX9_passes_50 rfl (by decide) (fun c5 => ?_) (fun c5 => ?_)
    · rw [if_pos c5] at hf
      exact v_X9_passes_72 t_a0 k31 hk31 hf
    · rw [if_neg c5] at hf
      refine vv_aload_n 54 dX9_passes_53 rfl rfl ?_
      obtain ⟨b6, g_b6, hf⟩ := bind_s hf
      have t_b6 := (ldA_spec g_b6).2
      refine gf_RX9_69 57 dX9_passes_54 rfl t_a0 (ldA_spec g_b6).1 ?_
      refine vv_iload 59 dX9_passes_57 rfl rfl ?_
      refine vv_iconst 60 (v := 1) dX9_passes_59 rfl (by decide) ?_
      refine vv_isub 61 dX9_passes_60 rfl ?_
      obtain ⟨r7, g_r7, hf⟩ := bind_s hf
      refine vv_lald 62 dX9_passes_61 rfl t_b6 g_r7 ?_
      obtain ⟨q8, g_q8, hf⟩ := bind_s hf
      refine vv_callS 65 (st := []) (As := [.long r7]) (stk2 := [.int q8]) (cl2 := 0) (sl2 := 0) dX9_passes_62 rfl lk_RX9_355 w_1507 ⟨(Nat.le_of_ble_eq_true rfl), (Nat.le_of_ble_eq_true rfl)⟩ rfl rfl ⟨(Nat.le_of_ble_eq_true rfl), (Nat.le_of_ble_eq_true rfl)⟩ rfl (Nat.le_of_ble_eq_true rfl) rfl rfl rfl rfl (c_X9_isNumber g_q8) ?_
      refine vv_if_eq 72 68 dX9_passes_65 rfl (by decide) (fun c9 => ?_) (fun c9 => ?_)
      · rw [if_pos c9] at hf
        exact v_X9_passes_72 t_a0 k31 hk31 hf
      · rw [if_neg c9] at hf
        refine vv_iconst 69 (v := 1) dX9_passes_68 rfl (by decide) ?_
        refine vv_goto 73 dX9_passes_69 (by decide) ?_
        exact v_X9_passes_73 t_a0 k31 hk31 hf

theorem v_X9_passes_31 {w : Wo} {K : Kn} {a0 : Nat} {x1 : Int32} {x2 : Int64} {q : (Int32 × Mem)} (t_a0 : K a0 = some (.inl 8)) : ∀ (n : Nat) (m : Mem) (x4 : Int32) (x5 : Int32), f_X9_passes_31 K a0 x1 x2 n m x4 x5 = some q → VV w RX9 cX9_passes 7 (some .int) rm_X9_passes false (QM w K (some (.int q.1)) q.2 0 0) K 31 [some (.ref a0), none, some (.long x2), none, some (.int x4), some (.int x5), none] [] 0 0 m := by
  intro n
  induction n with
  | zero => intro m x4 x5 hf; cases hf
  | succ n ih => intro m x4 x5 hf; exact v_X9_passes_31B (a0 := a0) (x1 := x1) (x2 := x2) t_a0 (f_X9_passes_31 K a0 x1 x2 n) ih hf

set_option maxHeartbeats 4000000 in
theorem v_X9_passes_0 {w : Wo} {K : Kn} {a0 : Nat} {x1 : Int32} {x2 : Int64} {q : (Int32 × Mem)} (t_a0 : K a0 = some (.inl 8)) {m : Mem} (hf : f_X9_passes K a0 x1 x2 m = some q) : VV w RX9 cX9_passes 7 (some .int) rm_X9_passes false (QM w K (some (.int q.1)) q.2 0 0) K 0 [some (.ref a0), some (.int x1), some (.long x2), none, none, none, none] [] 0 0 m := by
  unfold f_X9_passes at hf
  refine vv_aload_n 1 dX9_passes_0 rfl rfl ?_
  refine vv_iload_n 2 dX9_passes_1 rfl rfl ?_
  obtain ⟨q1, g_q1, hf⟩ := bind_s hf
  refine vv_callV 5 (st := []) (As := [.int x1]) (stk2 := [.int q1]) (cl2 := 0) (sl2 := 0) dX9_passes_2 rfl lk_RX9_87 w_1220 w_21 rfl t_a0 ⟨(Nat.le_of_ble_eq_true rfl), (Nat.le_of_ble_eq_true rfl)⟩ rfl rfl ⟨(Nat.le_of_ble_eq_true rfl), (Nat.le_of_ble_eq_true rfl)⟩ rfl (Nat.le_of_ble_eq_true rfl) rfl rfl rfl rfl (c_X9_isSeries t_a0 g_q1) ?_
  refine vv_if_ne 11 8 dX9_passes_5 rfl (by decide) (fun c2 => ?_) (fun c2 => ?_)
  · rw [if_pos c2] at hf
    refine vv_bipush 10 (v := (-2)) dX9_passes_8 rfl (by decide) ?_
    obtain rfl := Option.some.inj hf
    exact vv_iret dX9_passes_10 rfl
  · rw [if_neg c2] at hf
    refine vv_lload_n 12 dX9_passes_11 rfl rfl ?_
    obtain ⟨q3, g_q3, hf⟩ := bind_s hf
    refine vv_callS 15 (st := []) (As := [.long x2]) (stk2 := [.int q3]) (cl2 := 0) (sl2 := 0) dX9_passes_12 rfl lk_RX9_355 w_1507 ⟨(Nat.le_of_ble_eq_true rfl), (Nat.le_of_ble_eq_true rfl)⟩ rfl rfl ⟨(Nat.le_of_ble_eq_true rfl), (Nat.le_of_ble_eq_true rfl)⟩ rfl (Nat.le_of_ble_eq_true rfl) rfl rfl rfl rfl (c_X9_isNumber g_q3) ?_
    refine vv_if_ne 20 18 dX9_passes_15 rfl (by decide) (fun c4 => ?_) (fun c4 => ?_)
    · rw [if_pos c4] at hf
      refine vv_iconst 19 (v := (-1)) dX9_passes_18 rfl (by decide) ?_
      obtain rfl := Option.some.inj hf
      exact vv_iret dX9_passes_19 rfl
    · rw [if_neg c4] at hf
      refine vv_aload_n 21 dX9_passes_20 rfl rfl ?_
      refine vv_iload_n 22 dX9_passes_21 rfl rfl ?_
      obtain ⟨q5, g_q5, hf⟩ := bind_s hf
      refine vv_callV 25 (st := []) (As := [.int x1]) (stk2 := []) (cl2 := 0) (sl2 := 0) dX9_passes_22 rfl lk_RX9_297 w_1369 w_45 rfl t_a0 ⟨(Nat.le_of_ble_eq_true rfl), (Nat.le_of_ble_eq_true rfl)⟩ rfl rfl ⟨(Nat.le_of_ble_eq_true rfl), (Nat.le_of_ble_eq_true rfl)⟩ rfl (Nat.le_of_ble_eq_true rfl) rfl rfl rfl rfl (c_X9_gathers t_a0 g_q5) ?_
      refine vv_iconst 26 (v := 0) dX9_passes_25 rfl (by decide) ?_
      refine vv_istore 28 (L' := [some (.ref a0), some (.int x1), some (.long x2), none, some (.int (0 : Int32)), none, none]) dX9_passes_26 rfl (Nat.le_of_ble_eq_true rfl) rfl ?_
      refine vv_iconst 29 (v := 1) dX9_passes_28 rfl (by decide) ?_
      refine vv_istore 31 (L' := [some (.ref a0), some (.int x1), some (.long x2), none, some (.int (0 : Int32)), some (.int (1 : Int32)), none]) dX9_passes_29 rfl (Nat.le_of_ble_eq_true rfl) rfl ?_
      exact VV.lle (v_X9_passes_31 t_a0 FU _ _ _ hf) (lle_s (lle_n (lle_s (lle_s (lle_s (lle_s (lle_s lle_nil)))))))

theorem c_X9_passes {w : Wo} {K : Kn} {a0 : Nat} {x1 : Int32} {x2 : Int64} {q : (Int32 × Mem)} {m : Mem} (t_a0 : K a0 = some (.inl 8)) (hf : F_X9_passes K m a0 x1 x2 = some q) : MM w K K yX9_passes cX9_passes 7 (some .int) rm_X9_passes [.ref a0, .int x1, .long x2] m (some (.int q.1)) q.2 0 0 :=
  mm_of (ini := false) (n := 3) (plainFor_of_name (by decide)) rfl (fun h => by first | rfl | cases h) (Nat.le_of_ble_eq_true rfl) rfl (v_X9_passes_0 t_a0 hf)

set_option maxHeartbeats 4000000 in
theorem v_X9_since_0 {w : Wo} {K : Kn} {a0 : Nat} {x1 : Int32} {x2 : Int32} {q : (Int32 × Mem)} (t_a0 : K a0 = some (.inl 8)) {m : Mem} (hf : f_X9_since K a0 x1 x2 m = some q) : VV w RX9 cX9_since 4 (some .int) rm_X9_since false (QM w K (some (.int q.1)) q.2 0 0) K 0 [some (.ref a0), some (.int x1), some (.int x2), none] [] 0 0 m := by
  unfold f_X9_since at hf
  refine vv_aload_n 1 dX9_since_0 rfl rfl ?_
  refine vv_iload_n 2 dX9_since_1 rfl rfl ?_
  refine vv_iload_n 3 dX9_since_2 rfl rfl ?_
  obtain ⟨q1, g_q1, hf⟩ := bind_s hf
  refine vv_callV 6 (st := []) (As := [.int x1, .int x2]) (stk2 := [.int q1]) (cl2 := 0) (sl2 := 0) dX9_since_3 rfl lk_RX9_325 w_1460 w_54 rfl t_a0 ⟨(Nat.le_of_ble_eq_true rfl), (Nat.le_of_ble_eq_true rfl)⟩ rfl rfl ⟨(Nat.le_of_ble_eq_true rfl), (Nat.le_of_ble_eq_true rfl)⟩ rfl (Nat.le_of_ble_eq_true rfl) rfl rfl rfl rfl (c_X9_isAsked t_a0 g_q1) ?_
  refine vv_if_ne 12 9 dX9_since_6 rfl (by decide) (fun c2 => ?_) (fun c2 => ?_)
  · rw [if_pos c2] at hf
    refine vv_bipush 11 (v := (-2)) dX9_since_9 rfl (by decide) ?_
    obtain rfl := Option.some.inj hf
    exact vv_iret dX9_since_11 rfl
  · rw [if_neg c2] at hf
    refine vv_aload_n 13 dX9_since_12 rfl rfl ?_
    refine vv_iload_n 14 dX9_since_13 rfl rfl ?_
    obtain ⟨q3, g_q3, hf⟩ := bind_s hf
    refine vv_callV 17 (st := []) (As := [.int x1]) (stk2 := []) (cl2 := 0) (sl2 := 0) dX9_since_14 rfl lk_RX9_297 w_1369 w_45 rfl t_a0 ⟨(Nat.le_of_ble_eq_true rfl), (Nat.le_of_ble_eq_true rfl)⟩ rfl rfl ⟨(Nat.le_of_ble_eq_true rfl), (Nat.le_of_ble_eq_true rfl)⟩ rfl (Nat.le_of_ble_eq_true rfl) rfl rfl rfl rfl (c_X9_gathers t_a0 g_q3) ?_
    refine vv_aload_n 18 dX9_since_17 rfl rfl ?_
    refine vv_iload_n 19 dX9_since_18 rfl rfl ?_
    refine vv_i2l 20 dX9_since_19 rfl ?_
    refine vv_lconst 21 (v := 1) dX9_since_20 rfl (by decide) ?_
    refine vv_ladd 22 dX9_since_21 rfl ?_
    obtain ⟨q4, g_q4, hf⟩ := bind_s hf
    refine vv_callV 25 (st := []) (As := [.long (((x2).toInt64) + (1 : Int64))]) (stk2 := [.int q4]) (cl2 := 0) (sl2 := 0) dX9_since_22 rfl lk_RX9_251 w_1373 w_46 rfl t_a0 ⟨(Nat.le_of_ble_eq_true rfl), (Nat.le_of_ble_eq_true rfl)⟩ rfl rfl ⟨(Nat.le_of_ble_eq_true rfl), (Nat.le_of_ble_eq_true rfl)⟩ rfl (Nat.le_of_ble_eq_true rfl) rfl rfl rfl rfl (c_X9_firstNot t_a0 g_q4) ?_
    refine vv_istore_n 26 (L' := [some (.ref a0), some (.int x1), some (.int x2), some (.int q4)]) dX9_since_25 rfl (Nat.le_of_ble_eq_true rfl) rfl ?_
    refine vv_iload_n 27 dX9_since_26 rfl rfl ?_
    refine vv_if_ne 34 30 dX9_since_27 rfl (by decide) (fun c5 => ?_) (fun c5 => ?_)
    · rw [if_pos c5] at hf
      refine vv_iconst 31 (v := (-1)) dX9_since_30 rfl (by decide) ?_
      refine vv_goto 43 dX9_since_31 (by decide) ?_
      obtain rfl := Option.some.inj hf
      exact vv_iret dX9_since_43 rfl
    · rw [if_neg c5] at hf
      refine vv_aload_n 35 dX9_since_34 rfl rfl ?_
      obtain ⟨b6, g_b6, hf⟩ := bind_s hf
      have t_b6 := (ldA_spec g_b6).2
      refine gf_RX9_66 38 dX9_since_35 rfl t_a0 (ldA_spec g_b6).1 ?_
      refine vv_iload_n 39 dX9_since_38 rfl rfl ?_
      refine vv_iconst 40 (v := 1) dX9_since_39 rfl (by decide) ?_
      refine vv_isub 41 dX9_since_40 rfl ?_
      obtain ⟨r7, g_r7, hf⟩ := bind_s hf
      refine vv_lald 42 dX9_since_41 rfl t_b6 g_r7 ?_
      refine vv_l2i 43 dX9_since_42 rfl ?_
      obtain rfl := Option.some.inj hf
      exact vv_iret dX9_since_43 rfl

theorem c_X9_since {w : Wo} {K : Kn} {a0 : Nat} {x1 : Int32} {x2 : Int32} {q : (Int32 × Mem)} {m : Mem} (t_a0 : K a0 = some (.inl 8)) (hf : F_X9_since K m a0 x1 x2 = some q) : MM w K K yX9_since cX9_since 4 (some .int) rm_X9_since [.ref a0, .int x1, .int x2] m (some (.int q.1)) q.2 0 0 :=
  mm_of (ini := false) (n := 1) (plainFor_of_name (by decide)) rfl (fun h => by first | rfl | cases h) (Nat.le_of_ble_eq_true rfl) rfl (v_X9_since_0 t_a0 hf)

set_option maxHeartbeats 4000000 in
theorem v_X9_area_88 {w : Wo} {K : Kn} {a0 : Nat} {x1 : Int32} {x2 : Int32} {x3 : Int32} {q : (Int64 × Mem)} (t_a0 : K a0 = some (.inl 8)) (k30 : Mem → UInt64 → Int32 → Option (Int64 × Mem)) (hk30 : ∀ (m : Mem) (x4 : UInt64) (x6 : Int32) (y4 : UInt64), alike64 y4 x4 = true → k30 m x4 x6 = some q → VV w RX9 cX9_area 7 (some .long) rm_X9_area false (QM w K (some (.long q.1)) q.2 0 0) K 30 [some (.ref a0), none, none, none, some (.double y4), none, some (.int x6)] [] 0 0 m) {m : Mem} {x4 : UInt64} {x6 : Int32} {y4 : UInt64} (al_x4 : alike64 y4 x4 = true) (hf : f_X9_area_88 K a0 x1 x2 x3 k30 m x4 x6 = some q) : VV w RX9 cX9_area 7 (some .long) rm_X9_area false (QM w K (some (.long q.1)) q.2 0 0) K 88 [some (.ref a0), none, none, none, some (.double y4), none, some (.int x6)] [] 0 0 m := by
  unfold f_X9_area_88 at hf
  obtain ⟨z1, e_z1, hf⟩ := bd_s hf
  refine vv_iincE (q := 91) (v := z1) (c := 1) (L' := [some (.ref a0), none, none, none, some (.double y4), none, some (.int z1)]) e_z1 dX9_area_88 rfl rfl (by decide) (Nat.le_of_ble_eq_true rfl) rfl ?_
  refine vv_goto 30 dX9_area_91 (by decide) ?_
  exact hk30 _ _ _ _ al_x4 hf

set_option maxHeartbeats 4000000 in
theorem v_X9_area_30B {w : Wo} {K : Kn} {a0 : Nat} {x1 : Int32} {x2 : Int32} {x3 : Int32} {q : (Int64 × Mem)} (t_a0 : K a0 = some (.inl 8)) (k30 : Mem → UInt64 → Int32 → Option (Int64 × Mem)) (hk30 : ∀ (m : Mem) (x4 : UInt64) (x6 : Int32) (y4 : UInt64), alike64 y4 x4 = true → k30 m x4 x6 = some q → VV w RX9 cX9_area 7 (some .long) rm_X9_area false (QM w K (some (.long q.1)) q.2 0 0) K 30 [some (.ref a0), none, none, none, some (.double y4), none, some (.int x6)] [] 0 0 m) {m : Mem} {x4 : UInt64} {x6 : Int32} {y4 : UInt64} (al_x4 : alike64 y4 x4 = true) (hf : f_X9_area_30B K a0 x1 x2 x3 k30 m x4 x6 = some q) : VV w RX9 cX9_area 7 (some .long) rm_X9_area false (QM w K (some (.long q.1)) q.2 0 0) K 30 [some (.ref a0), none, none, none, some (.double y4), none, some (.int x6)] [] 0 0 m := by
  unfold f_X9_area_30B at hf
  refine vv_iload 32 dX9_area_30 rfl rfl ?_
  refine vv_iconst 33 (v := 1) dX9_area_32 rfl (by decide) ?_
  refine vv_iadd 34 dX9_area_33 rfl ?_
  refine vv_aload_n 35 dX9_area_34 rfl rfl ?_
  refine gf_RX9_340 38 dX9_area_35 rfl t_a0 ?_
  refine vv_icmp_ge 94 41 dX9_area_38 rfl (by decide) (fun c1 => ?_) (fun c1 => ?_)
  · rw [if_pos c1] at hf
    refine vv_dload 96 dX9_area_94 rfl rfl ?_
    obtain ⟨q2, g_q2, hf⟩ := bind_s hf
    refine vv_callS 99 (st := []) (As := [.double y4]) (stk2 := [.long q2]) (cl2 := 0) (sl2 := 0) dX9_area_96 rfl lk_RX9_379 w_1525 ⟨(Nat.le_of_ble_eq_true rfl), (Nat.le_of_ble_eq_true rfl)⟩ rfl rfl ⟨(Nat.le_of_ble_eq_true rfl), (Nat.le_of_ble_eq_true rfl)⟩ rfl (Nat.le_of_ble_eq_true rfl) rfl rfl rfl rfl (c_X9_told al_x4 g_q2) ?_
    obtain rfl := Option.some.inj hf
    exact vv_lret dX9_area_99 rfl
  · rw [if_neg c1] at hf
    refine vv_aload_n 42 dX9_area_41 rfl rfl ?_
    obtain ⟨b3, g_b3, hf⟩ := bind_s hf
    have t_b3 := (ldA_spec g_b3).2
    refine gf_RX9_69 45 dX9_area_42 rfl t_a0 (ldA_spec g_b3).1 ?_
    refine vv_iload 47 dX9_area_45 rfl rfl ?_
    obtain ⟨r4, g_r4, hf⟩ := bind_s hf
    refine vv_lald 48 dX9_area_47 rfl t_b3 g_r4 ?_
    obtain ⟨q5, g_q5, hf⟩ := bind_s hf
    refine vv_callS 51 (st := []) (As := [.long r4]) (stk2 := [.int q5]) (cl2 := 0) (sl2 := 0) dX9_area_48 rfl lk_RX9_355 w_1507 ⟨(Nat.le_of_ble_eq_true rfl), (Nat.le_of_ble_eq_true rfl)⟩ rfl rfl ⟨(Nat.le_of_ble_eq_true rfl), (Nat.le_of_ble_eq_true rfl)⟩ rfl (Nat.le_of_ble_eq_true rfl) rfl rfl rfl rfl (c_X9_isNumber g_q5) ?_
    refine vv_if_eq 88 54 dX9_area_51 rfl (by decide) (fun c6 => ?_) (fun c6 => ?_)
    · rw [if_pos c6] at hf
      exact v_X9_area_88 t_a0 k30 hk30 al_x4 hf
    · rw [if_neg c6] at hf
      refine vv_dload 56 dX9_area_54 rfl rfl ?_
      refine vv_aload_n 57 dX9_area_56 rfl rfl ?_
      obtain ⟨b7, g_b7, hf⟩ := bind_s hf
      have t_b7 := (ldA_spec g_b7).2
      refine gf_RX9_69 60 dX9_area_57 rfl t_a0 (ldA_spec g_b7).1 ?_
      refine vv_iload 62 dX9_area_60 rfl rfl ?_
      obtain ⟨r8, g_r8, hf⟩ := bind_s hf
      refine vv_lald 63 dX9_area_62 rfl t_b7 g_r8 ?_
      obtain ⟨h9, hf⟩ := gd_s hf
      refine vv_lb2d 66 dX9_area_63 rfl w_1521 w_1523 w_1522 w_76 h9 (Nat.le_of_ble_eq_true rfl) (Nat.le_of_ble_eq_true rfl) ?_
      refine vv_aload_n 67 dX9_area_66 rfl rfl ?_
      obtain ⟨b10, g_b10, hf⟩ := bind_s hf
      have t_b10 := (ldA_spec g_b10).2
      refine gf_RX9_66 70 dX9_area_67 rfl t_a0 (ldA_spec g_b10).1 ?_
      refine vv_iload 72 dX9_area_70 rfl rfl ?_
      refine vv_iconst 73 (v := 1) dX9_area_72 rfl (by decide) ?_
      refine vv_iadd 74 dX9_area_73 rfl ?_
      obtain ⟨r11, g_r11, hf⟩ := bind_s hf
      refine vv_lald 75 dX9_area_74 rfl t_b10 g_r11 ?_
      refine vv_aload_n 76 dX9_area_75 rfl rfl ?_
      obtain ⟨b12, g_b12, hf⟩ := bind_s hf
      have t_b12 := (ldA_spec g_b12).2
      refine gf_RX9_66 79 dX9_area_76 rfl t_a0 (ldA_spec g_b12).1 ?_
      refine vv_iload 81 dX9_area_79 rfl rfl ?_
      obtain ⟨r13, g_r13, hf⟩ := bind_s hf
      refine vv_lald 82 dX9_area_81 rfl t_b12 g_r13 ?_
      refine vv_lsub 83 dX9_area_82 rfl ?_
      refine vv_l2d 84 dX9_area_83 rfl ?_
      refine vv_dmul 85 dX9_area_84 rfl (fun d14 h_d14 => ?_)
      refine vv_dadd 86 dX9_area_85 rfl (fun d15 h_d15 => ?_)
      refine vv_dstore 88 (L' := [some (.ref a0), none, none, none, some (.double d15), none, some (.int x6)]) dX9_area_86 rfl (Nat.le_of_ble_eq_true rfl) rfl ?_
      exact v_X9_area_88 t_a0 k30 hk30 (dadd_alike h_d15 al_x4 (dmul_alike h_d14 (alike_refl _) (alike_refl _))) hf

theorem v_X9_area_30 {w : Wo} {K : Kn} {a0 : Nat} {x1 : Int32} {x2 : Int32} {x3 : Int32} {q : (Int64 × Mem)} (t_a0 : K a0 = some (.inl 8)) : ∀ (n : Nat) (m : Mem) (x4 : UInt64) (x6 : Int32) (y4 : UInt64), alike64 y4 x4 = true → f_X9_area_30 K a0 x1 x2 x3 n m x4 x6 = some q → VV w RX9 cX9_area 7 (some .long) rm_X9_area false (QM w K (some (.long q.1)) q.2 0 0) K 30 [some (.ref a0), none, none, none, some (.double y4), none, some (.int x6)] [] 0 0 m := by
  intro n
  induction n with
  | zero => intro m x4 x6 y4 al_x4 hf; cases hf
  | succ n ih => intro m x4 x6 y4 al_x4 hf; exact v_X9_area_30B (a0 := a0) (x1 := x1) (x2 := x2) (x3 := x3) t_a0 (f_X9_area_30 K a0 x1 x2 x3 n) ih al_x4 hf

set_option maxHeartbeats 4000000 in
theorem v_X9_area_0 {w : Wo} {K : Kn} {a0 : Nat} {x1 : Int32} {x2 : Int32} {x3 : Int32} {q : (Int64 × Mem)} (t_a0 : K a0 = some (.inl 8)) {m : Mem} (hf : f_X9_area K a0 x1 x2 x3 m = some q) : VV w RX9 cX9_area 7 (some .long) rm_X9_area false (QM w K (some (.long q.1)) q.2 0 0) K 0 [some (.ref a0), some (.int x1), some (.int x2), some (.int x3), none, none, none] [] 0 0 m := by
  unfold f_X9_area at hf
  refine vv_aload_n 1 dX9_area_0 rfl rfl ?_
  refine vv_iload_n 2 dX9_area_1 rfl rfl ?_
  refine vv_iload_n 3 dX9_area_2 rfl rfl ?_
  refine vv_iload_n 4 dX9_area_3 rfl rfl ?_
  obtain ⟨q1, g_q1, hf⟩ := bind_s hf
  refine vv_callV 7 (st := []) (As := [.int x1, .int x2, .int x3]) (stk2 := [.int q1]) (cl2 := 0) (sl2 := 0) dX9_area_4 rfl lk_RX9_343 w_1496 w_56 rfl t_a0 ⟨(Nat.le_of_ble_eq_true rfl), (Nat.le_of_ble_eq_true rfl)⟩ rfl rfl ⟨(Nat.le_of_ble_eq_true rfl), (Nat.le_of_ble_eq_true rfl)⟩ rfl (Nat.le_of_ble_eq_true rfl) rfl rfl rfl rfl (c_X9_isSpan t_a0 g_q1) ?_
  refine vv_if_ne 14 10 dX9_area_7 rfl (by decide) (fun c2 => ?_) (fun c2 => ?_)
  · rw [if_pos c2] at hf
    refine vv_ldc2 13 (v := 9221120237041090560) dX9_area_10 rfl w_1517 ?_
    obtain rfl := Option.some.inj hf
    exact vv_lret dX9_area_13 rfl
  · rw [if_neg c2] at hf
    refine vv_aload_n 15 dX9_area_14 rfl rfl ?_
    refine vv_iload_n 16 dX9_area_15 rfl rfl ?_
    refine vv_iload_n 17 dX9_area_16 rfl rfl ?_
    refine vv_iload_n 18 dX9_area_17 rfl rfl ?_
    obtain ⟨q3, g_q3, hf⟩ := bind_s hf
    refine vv_callV 21 (st := []) (As := [.int x1, .int x2, .int x3]) (stk2 := []) (cl2 := 0) (sl2 := 0) dX9_area_18 rfl lk_RX9_351 w_1504 w_58 rfl t_a0 ⟨(Nat.le_of_ble_eq_true rfl), (Nat.le_of_ble_eq_true rfl)⟩ rfl rfl ⟨(Nat.le_of_ble_eq_true rfl), (Nat.le_of_ble_eq_true rfl)⟩ rfl (Nat.le_of_ble_eq_true rfl) rfl rfl rfl rfl (c_X9_laysSpan t_a0 g_q3) ?_
    refine vv_dconst0 22 dX9_area_21 rfl ?_
    refine vv_dstore 24 (L' := [some (.ref a0), some (.int x1), some (.int x2), some (.int x3), some (.double FP.dconst0), none, none]) dX9_area_22 rfl (Nat.le_of_ble_eq_true rfl) rfl ?_
    refine vv_aload_n 25 dX9_area_24 rfl rfl ?_
    refine gf_RX9_337 28 dX9_area_25 rfl t_a0 ?_
    obtain ⟨z4, e_z4, hf⟩ := bd_s hf
    refine vv_istoreE (q := 30) (v := z4) (L' := [some (.ref a0), some (.int x1), some (.int x2), some (.int x3), some (.double FP.dconst0), none, some (.int z4)]) e_z4 dX9_area_28 rfl (Nat.le_of_ble_eq_true rfl) rfl ?_
    exact VV.lle (v_X9_area_30 t_a0 FU _ _ _ _ (alike_refl FP.dconst0) hf) (lle_s (lle_n (lle_n (lle_n (lle_s (lle_s (lle_s lle_nil)))))))

theorem c_X9_area {w : Wo} {K : Kn} {a0 : Nat} {x1 : Int32} {x2 : Int32} {x3 : Int32} {q : (Int64 × Mem)} {m : Mem} (t_a0 : K a0 = some (.inl 8)) (hf : F_X9_area K m a0 x1 x2 x3 = some q) : MM w K K yX9_area cX9_area 7 (some .long) rm_X9_area [.ref a0, .int x1, .int x2, .int x3] m (some (.long q.1)) q.2 0 0 :=
  mm_of (ini := false) (n := 3) (plainFor_of_name (by decide)) rfl (fun h => by first | rfl | cases h) (Nat.le_of_ble_eq_true rfl) rfl (v_X9_area_0 t_a0 hf)

set_option maxHeartbeats 4000000 in
theorem v_X9_feed_42B {w : Wo} {K : Kn} {K0 : Kn} {a0 : Nat} {x1 : Int32} {x2 : Int32} {x3 : Int32} {x4 : Int32} {x5 : Int32} {q : (Int32 × Mem)} (t_a0 : K a0 = some (.inl 8)) (hK0 : ∀ a k, K0 a = some k → K a = some k) (k42 : Mem → Nat → Int32 → Option (Int32 × Mem)) (hk42 : ∀ (m : Mem) (a6 : Nat) (x7 : Int32), K a6 = some (.inr (0, lenK K a6)) → k42 m a6 x7 = some q → VV w RX9 cX9_feed 8 (some .int) rm_X9_feed false (QM w K0 (some (.int q.1)) q.2 1 5) K 42 [some (.ref a0), none, none, none, none, none, some (.ref a6), some (.int x7)] [] 1 5 m) {m : Mem} {a6 : Nat} {x7 : Int32} (t_a6 : K a6 = some (.inr (0, lenK K a6))) (hf : f_X9_feed_42B K a0 x1 x2 x3 x4 x5 k42 m a6 x7 = some q) : VV w RX9 cX9_feed 8 (some .int) rm_X9_feed false (QM w K0 (some (.int q.1)) q.2 1 5) K 42 [some (.ref a0), none, none, none, none, none, some (.ref a6), some (.int x7)] [] 1 5 m := by
  unfold f_X9_feed_42B at hf
  refine vv_iload 44 dX9_feed_42 rfl rfl ?_
  refine vv_bipush 46 (v := 20) dX9_feed_44 rfl (by decide) ?_
  refine vv_icmp_ge 89 49 dX9_feed_46 rfl (by decide) (fun c1 => ?_) (fun c1 => ?_)
  · rw [if_pos c1] at hf
    refine vv_aload_n 90 dX9_feed_89 rfl rfl ?_
    refine vv_dup 91 dX9_feed_90 rfl rfl ?_
    refine gf_RX9_401 94 dX9_feed_91 rfl t_a0 ?_
    refine vv_bipush 96 (v := 20) dX9_feed_94 rfl (by decide) ?_
    refine vv_iadd 97 dX9_feed_96 rfl ?_
    obtain ⟨m2, e_m2, hf⟩ := bd_s hf
    refine pf_RX9_401 100 dX9_feed_97 rfl t_a0 e_m2 ?_
    refine vv_aload_n 101 dX9_feed_100 rfl rfl ?_
    refine gf_RX9_401 104 dX9_feed_101 rfl t_a0 ?_
    obtain rfl := Option.some.inj hf
    refine vv_forgetK hK0 ?_
    exact vv_iret dX9_feed_104 rfl
  · rw [if_neg c1] at hf
    refine vv_aload_n 50 dX9_feed_49 rfl rfl ?_
    obtain ⟨b3, g_b3, hf⟩ := bind_s hf
    have t_b3 := (ldA_spec g_b3).2
    refine gf_RX9_48 53 dX9_feed_50 rfl t_a0 (ldA_spec g_b3).1 ?_
    refine vv_aload_n 54 dX9_feed_53 rfl rfl ?_
    refine gf_RX9_401 57 dX9_feed_54 rfl t_a0 ?_
    refine vv_iload 59 dX9_feed_57 rfl rfl ?_
    refine vv_iadd 60 dX9_feed_59 rfl ?_
    refine vv_aload 62 dX9_feed_60 rfl rfl ?_
    refine vv_iload 64 dX9_feed_62 rfl rfl ?_
    refine vv_iconst 65 (v := 4) dX9_feed_64 rfl (by decide) ?_
    refine vv_idiv 66 dX9_feed_65 rfl (by decide) ?_
    obtain ⟨r4, g_r4, hf⟩ := bind_s hf
    refine vv_iald 67 dX9_feed_66 rfl t_a6 g_r4 ?_
    refine vv_bipush 69 (v := 24) dX9_feed_67 rfl (by decide) ?_
    refine vv_bipush 71 (v := 8) dX9_feed_69 rfl (by decide) ?_
    refine vv_iload 73 dX9_feed_71 rfl rfl ?_
    refine vv_iconst 74 (v := 4) dX9_feed_73 rfl (by decide) ?_
    refine vv_irem 75 dX9_feed_74 rfl (by decide) ?_
    refine vv_imul 76 dX9_feed_75 rfl ?_
    refine vv_isub 77 dX9_feed_76 rfl ?_
    refine vv_iushr 78 dX9_feed_77 rfl ?_
    refine vv_sipush 81 (v := 255) dX9_feed_78 rfl (by decide) ?_
    refine vv_iand 82 dX9_feed_81 rfl ?_
    obtain ⟨m5, g_m5, hf⟩ := bind_s hf
    refine vv_iast 83 dX9_feed_82 rfl t_b3 g_m5 ?_
    obtain ⟨z6, e_z6, hf⟩ := bd_s hf
    refine vv_iincE (q := 86) (v := z6) (c := 1) (L' := [some (.ref a0), none, none, none, none, none, some (.ref a6), some (.int z6)]) e_z6 dX9_feed_83 rfl rfl (by decide) (Nat.le_of_ble_eq_true rfl) rfl ?_
    refine vv_goto 42 dX9_feed_86 (by decide) ?_
    exact hk42 _ _ _ t_a6 hf

theorem v_X9_feed_42 {w : Wo} {K : Kn} {K0 : Kn} {a0 : Nat} {x1 : Int32} {x2 : Int32} {x3 : Int32} {x4 : Int32} {x5 : Int32} {q : (Int32 × Mem)} (t_a0 : K a0 = some (.inl 8)) (hK0 : ∀ a k, K0 a = some k → K a = some k) : ∀ (n : Nat) (m : Mem) (a6 : Nat) (x7 : Int32), K a6 = some (.inr (0, lenK K a6)) → f_X9_feed_42 K a0 x1 x2 x3 x4 x5 n m a6 x7 = some q → VV w RX9 cX9_feed 8 (some .int) rm_X9_feed false (QM w K0 (some (.int q.1)) q.2 1 5) K 42 [some (.ref a0), none, none, none, none, none, some (.ref a6), some (.int x7)] [] 1 5 m := by
  intro n
  induction n with
  | zero => intro m a6 x7 t_a6 hf; cases hf
  | succ n ih => intro m a6 x7 t_a6 hf; exact v_X9_feed_42B (a0 := a0) (x1 := x1) (x2 := x2) (x3 := x3) (x4 := x4) (x5 := x5) t_a0 hK0 (f_X9_feed_42 K a0 x1 x2 x3 x4 x5 n) ih t_a6 hf

set_option maxHeartbeats 4000000 in
theorem v_X9_feed_0 {w : Wo} {K : Kn} {K0 : Kn} {a0 : Nat} {x1 : Int32} {x2 : Int32} {x3 : Int32} {x4 : Int32} {x5 : Int32} {q : (Int32 × Mem)} (t_a0 : K a0 = some (.inl 8)) (hK0 : ∀ a k, K0 a = some k → K a = some k) {m : Mem} (hf : f_X9_feed K a0 x1 x2 x3 x4 x5 m = some q) : VV w RX9 cX9_feed 8 (some .int) rm_X9_feed false (QM w K0 (some (.int q.1)) q.2 1 5) K 0 [some (.ref a0), some (.int x1), some (.int x2), some (.int x3), some (.int x4), some (.int x5), none, none] [] 0 0 m := by
  unfold f_X9_feed at hf
  refine vv_aload_n 1 dX9_feed_0 rfl rfl ?_
  refine gf_RX9_401 4 dX9_feed_1 rfl t_a0 ?_
  refine vv_sipush 7 (v := 180) dX9_feed_4 rfl (by decide) ?_
  refine vv_icmp_le 12 10 dX9_feed_7 rfl (by decide) (fun c1 => ?_) (fun c1 => ?_)
  · rw [if_pos c1] at hf
    refine vv_iconst 13 (v := 5) dX9_feed_12 rfl (by decide) ?_
    obtain ⟨b2, e_b2, hf⟩ := bd_s hf
    obtain ⟨K3, e_K3, hf⟩ := bd_s hf
    obtain ⟨m4, e_m4, hf⟩ := bd_s hf
    refine vv_newIE 15 5 (cl2 := 1) (sl2 := 5) e_b2 e_K3 e_m4 dX9_feed_13 rfl w_123 (by decide) (by decide) (by decide) (Nat.le_of_ble_eq_true rfl) (Nat.le_of_ble_eq_true rfl) rfl rfl (fun t_b2 => ?_)
    have t_b2 := arrK t_b2
    have t_5 := upK_oldE e_K3 t_a0
    have hK0_6 : ∀ a k, K0 a = some k → K3 a = some k := fun a k h => upK_oldE e_K3 (hK0 a k h)
    refine vv_dup 16 dX9_feed_15 rfl rfl ?_
    refine vv_iconst 17 (v := 0) dX9_feed_16 rfl (by decide) ?_
    refine vv_iload_n 18 dX9_feed_17 rfl rfl ?_
    obtain ⟨m7, g_m7, hf⟩ := bind_s hf
    refine vv_iast 19 dX9_feed_18 rfl t_b2 g_m7 ?_
    refine vv_dup 20 dX9_feed_19 rfl rfl ?_
    refine vv_iconst 21 (v := 1) dX9_feed_20 rfl (by decide) ?_
    refine vv_iload_n 22 dX9_feed_21 rfl rfl ?_
    obtain ⟨m8, g_m8, hf⟩ := bind_s hf
    refine vv_iast 23 dX9_feed_22 rfl t_b2 g_m8 ?_
    refine vv_dup 24 dX9_feed_23 rfl rfl ?_
    refine vv_iconst 25 (v := 2) dX9_feed_24 rfl (by decide) ?_
    refine vv_iload_n 26 dX9_feed_25 rfl rfl ?_
    obtain ⟨m9, g_m9, hf⟩ := bind_s hf
    refine vv_iast 27 dX9_feed_26 rfl t_b2 g_m9 ?_
    refine vv_dup 28 dX9_feed_27 rfl rfl ?_
    refine vv_iconst 29 (v := 3) dX9_feed_28 rfl (by decide) ?_
    refine vv_iload 31 dX9_feed_29 rfl rfl ?_
    obtain ⟨m10, g_m10, hf⟩ := bind_s hf
    refine vv_iast 32 dX9_feed_31 rfl t_b2 g_m10 ?_
    refine vv_dup 33 dX9_feed_32 rfl rfl ?_
    refine vv_iconst 34 (v := 4) dX9_feed_33 rfl (by decide) ?_
    refine vv_iload 36 dX9_feed_34 rfl rfl ?_
    obtain ⟨m11, g_m11, hf⟩ := bind_s hf
    refine vv_iast 37 dX9_feed_36 rfl t_b2 g_m11 ?_
    refine vv_astore 39 (L' := [some (.ref a0), some (.int x1), some (.int x2), some (.int x3), some (.int x4), some (.int x5), some (.ref b2), none]) dX9_feed_37 rfl (Nat.le_of_ble_eq_true rfl) rfl ?_
    refine vv_iconst 40 (v := 0) dX9_feed_39 rfl (by decide) ?_
    refine vv_istore 42 (L' := [some (.ref a0), some (.int x1), some (.int x2), some (.int x3), some (.int x4), some (.int x5), some (.ref b2), some (.int (0 : Int32))]) dX9_feed_40 rfl (Nat.le_of_ble_eq_true rfl) rfl ?_
    exact VV.lle (v_X9_feed_42 t_5 hK0_6 FU _ _ _ t_b2 hf) (lle_s (lle_n (lle_n (lle_n (lle_n (lle_n (lle_s (lle_s lle_nil))))))))
  · rw [if_neg c1] at hf
    refine vv_iconst 11 (v := (-1)) dX9_feed_10 rfl (by decide) ?_
    obtain rfl := Option.some.inj hf
    refine vv_widen (k := 1) (n := 5) (by decide) (by decide) ?_
    refine vv_forgetK hK0 ?_
    exact vv_iret dX9_feed_11 rfl

theorem c_X9_feed {w : Wo} {K : Kn} {a0 : Nat} {x1 : Int32} {x2 : Int32} {x3 : Int32} {x4 : Int32} {x5 : Int32} {q : (Int32 × Mem)} {m : Mem} (t_a0 : K a0 = some (.inl 8)) (hf : F_X9_feed K m a0 x1 x2 x3 x4 x5 = some q) : MM w K K yX9_feed cX9_feed 8 (some .int) rm_X9_feed [.ref a0, .int x1, .int x2, .int x3, .int x4, .int x5] m (some (.int q.1)) q.2 1 5 :=
  mm_of (ini := false) (n := 2) (plainFor_of_name (by decide)) rfl (fun h => by first | rfl | cases h) (Nat.le_of_ble_eq_true rfl) rfl (v_X9_feed_0 t_a0 (fun _ _ h => h) hf)

set_option maxHeartbeats 4000000 in
theorem v_X9_end_0 {w : Wo} {K : Kn} {a0 : Nat} {x1 : Int32} {q : (Int32 × Mem)} (t_a0 : K a0 = some (.inl 8)) {m : Mem} (hf : f_X9_end K a0 x1 m = some q) : VV w RX9 cX9_end 2 (some .int) rm_X9_end false (QM w K (some (.int q.1)) q.2 0 0) K 0 [some (.ref a0), some (.int x1)] [] 0 0 m := by
  unfold f_X9_end at hf
  refine vv_iload_n 1 dX9_end_0 rfl rfl ?_
  refine vv_i2l 2 dX9_end_1 rfl ?_
  refine vv_lconst 3 (v := 0) dX9_end_2 rfl (by decide) ?_
  refine vv_aload_n 4 dX9_end_3 rfl rfl ?_
  refine gf_RX9_401 7 dX9_end_4 rfl t_a0 ?_
  refine vv_i2l 8 dX9_end_7 rfl ?_
  obtain ⟨q1, g_q1, hf⟩ := bind_s hf
  refine vv_callS 11 (st := []) (As := [.long ((x1).toInt64), .long (0 : Int64), .long ((gI m a0 13).toInt64)]) (stk2 := [.int q1]) (cl2 := 0) (sl2 := 0) dX9_end_8 rfl lk_RX9_83 w_1206 ⟨(Nat.le_of_ble_eq_true rfl), (Nat.le_of_ble_eq_true rfl)⟩ rfl rfl ⟨(Nat.le_of_ble_eq_true rfl), (Nat.le_of_ble_eq_true rfl)⟩ rfl (Nat.le_of_ble_eq_true rfl) rfl rfl rfl rfl (c_X9_in g_q1) ?_
  refine vv_if_ne 16 14 dX9_end_11 rfl (by decide) (fun c2 => ?_) (fun c2 => ?_)
  · rw [if_pos c2] at hf
    refine vv_iconst 15 (v := (-1)) dX9_end_14 rfl (by decide) ?_
    obtain rfl := Option.some.inj hf
    exact vv_iret dX9_end_15 rfl
  · rw [if_neg c2] at hf
    refine vv_aload_n 17 dX9_end_16 rfl rfl ?_
    refine vv_iload_n 18 dX9_end_17 rfl rfl ?_
    obtain ⟨m3, e_m3, hf⟩ := bd_s hf
    refine pf_RX9_401 21 dX9_end_18 rfl t_a0 e_m3 ?_
    refine vv_iload_n 22 dX9_end_21 rfl rfl ?_
    obtain rfl := Option.some.inj hf
    exact vv_iret dX9_end_22 rfl

theorem c_X9_end {w : Wo} {K : Kn} {a0 : Nat} {x1 : Int32} {q : (Int32 × Mem)} {m : Mem} (t_a0 : K a0 = some (.inl 8)) (hf : F_X9_end K m a0 x1 = some q) : MM w K K yX9_end cX9_end 2 (some .int) rm_X9_end [.ref a0, .int x1] m (some (.int q.1)) q.2 0 0 :=
  mm_of (ini := false) (n := 0) (plainFor_of_name (by decide)) rfl (fun h => by first | rfl | cases h) (Nat.le_of_ble_eq_true rfl) rfl (v_X9_end_0 t_a0 hf)

set_option maxHeartbeats 4000000 in
theorem v_X9_takes_225B {w : Wo} {K : Kn} {a0 : Nat} {x1 : Int32} {q : (Int32 × Mem)} (t_a0 : K a0 = some (.inl 8)) (k225 : Mem → Int32 → Int32 → Int32 → Int32 → Option (Int32 × Mem)) (hk225 : ∀ (m : Mem) (x2 : Int32) (x3 : Int32) (x4 : Int32) (x5 : Int32), k225 m x2 x3 x4 x5 = some q → VV w RX9 cX9_takes 6 (some .int) rm_X9_takes false (QM w K (some (.int q.1)) q.2 0 0) K 225 [some (.ref a0), some (.int x1), some (.int x2), some (.int x3), some (.int x4), some (.int x5)] [] 0 0 m) {m : Mem} {x2 : Int32} {x3 : Int32} {x4 : Int32} {x5 : Int32} (hf : f_X9_takes_225B K a0 x1 k225 m x2 x3 x4 x5 = some q) : VV w RX9 cX9_takes 6 (some .int) rm_X9_takes false (QM w K (some (.int q.1)) q.2 0 0) K 225 [some (.ref a0), some (.int x1), some (.int x2), some (.int x3), some (.int x4), some (.int x5)] [] 0 0 m := by
  unfold f_X9_takes_225B at hf
  refine vv_iload 227 dX9_takes_225 rfl rfl ?_
  refine vv_iload_n 228 dX9_takes_227 rfl rfl ?_
  refine vv_icmp_ge 258 231 dX9_takes_228 rfl (by decide) (fun c1 => ?_) (fun c1 => ?_)
  · rw [if_pos c1] at hf
    refine vv_aload_n 259 dX9_takes_258 rfl rfl ?_
    obtain ⟨b2, g_b2, hf⟩ := bind_s hf
    have t_b2 := (ldA_spec g_b2).2
    refine gf_RX9_22 262 dX9_takes_259 rfl t_a0 (ldA_spec g_b2).1 ?_
    refine vv_iload 264 dX9_takes_262 rfl rfl ?_
    refine vv_iload_n 265 dX9_takes_264 rfl rfl ?_
    obtain ⟨m3, g_m3, hf⟩ := bind_s hf
    refine vv_iast 266 dX9_takes_265 rfl t_b2 g_m3 ?_
    refine vv_aload_n 267 dX9_takes_266 rfl rfl ?_
    obtain ⟨b4, g_b4, hf⟩ := bind_s hf
    have t_b4 := (ldA_spec g_b4).2
    refine gf_RX9_28 270 dX9_takes_267 rfl t_a0 (ldA_spec g_b4).1 ?_
    refine vv_iload 272 dX9_takes_270 rfl rfl ?_
    refine vv_iconst 273 (v := 1) dX9_takes_272 rfl (by decide) ?_
    obtain ⟨m5, g_m5, hf⟩ := bind_s hf
    refine vv_zast 274 dX9_takes_273 rfl t_b4 g_m5 ?_
    refine vv_aload_n 275 dX9_takes_274 rfl rfl ?_
    obtain ⟨b6, g_b6, hf⟩ := bind_s hf
    have t_b6 := (ldA_spec g_b6).2
    refine gf_RX9_32 278 dX9_takes_275 rfl t_a0 (ldA_spec g_b6).1 ?_
    refine vv_iload 280 dX9_takes_278 rfl rfl ?_
    refine vv_aload_n 281 dX9_takes_280 rfl rfl ?_
    obtain ⟨b7, g_b7, hf⟩ := bind_s hf
    have t_b7 := (ldA_spec g_b7).2
    refine gf_RX9_32 284 dX9_takes_281 rfl t_a0 (ldA_spec g_b7).1 ?_
    refine vv_iload_n 285 dX9_takes_284 rfl rfl ?_
    obtain ⟨r8, g_r8, hf⟩ := bind_s hf
    refine vv_iald 286 dX9_takes_285 rfl t_b7 g_r8 ?_
    obtain ⟨m9, g_m9, hf⟩ := bind_s hf
    refine vv_iast 287 dX9_takes_286 rfl t_b6 g_m9 ?_
    refine vv_aload_n 288 dX9_takes_287 rfl rfl ?_
    obtain ⟨b10, g_b10, hf⟩ := bind_s hf
    have t_b10 := (ldA_spec g_b10).2
    refine gf_RX9_35 291 dX9_takes_288 rfl t_a0 (ldA_spec g_b10).1 ?_
    refine vv_iload 293 dX9_takes_291 rfl rfl ?_
    refine vv_aload_n 294 dX9_takes_293 rfl rfl ?_
    obtain ⟨b11, g_b11, hf⟩ := bind_s hf
    have t_b11 := (ldA_spec g_b11).2
    refine gf_RX9_35 297 dX9_takes_294 rfl t_a0 (ldA_spec g_b11).1 ?_
    refine vv_iload_n 298 dX9_takes_297 rfl rfl ?_
    obtain ⟨r12, g_r12, hf⟩ := bind_s hf
    refine vv_iald 299 dX9_takes_298 rfl t_b11 g_r12 ?_
    obtain ⟨m13, g_m13, hf⟩ := bind_s hf
    refine vv_iast 300 dX9_takes_299 rfl t_b10 g_m13 ?_
    refine vv_aload_n 301 dX9_takes_300 rfl rfl ?_
    obtain ⟨b14, g_b14, hf⟩ := bind_s hf
    have t_b14 := (ldA_spec g_b14).2
    refine gf_RX9_16 304 dX9_takes_301 rfl t_a0 (ldA_spec g_b14).1 ?_
    refine vv_iload_n 305 dX9_takes_304 rfl rfl ?_
    refine vv_dup2 306 dX9_takes_305 rfl rfl rfl ?_
    obtain ⟨r15, g_r15, hf⟩ := bind_s hf
    refine vv_iald 307 dX9_takes_306 rfl t_b14 g_r15 ?_
    refine vv_iconst 308 (v := 1) dX9_takes_307 rfl (by decide) ?_
    refine vv_iadd 309 dX9_takes_308 rfl ?_
    obtain ⟨m16, g_m16, hf⟩ := bind_s hf
    refine vv_iast 310 dX9_takes_309 rfl t_b14 g_m16 ?_
    refine vv_aload_n 311 dX9_takes_310 rfl rfl ?_
    obtain ⟨b17, g_b17, hf⟩ := bind_s hf
    have t_b17 := (ldA_spec g_b17).2
    refine gf_RX9_16 314 dX9_takes_311 rfl t_a0 (ldA_spec g_b17).1 ?_
    refine vv_iload_n 315 dX9_takes_314 rfl rfl ?_
    obtain ⟨r18, g_r18, hf⟩ := bind_s hf
    refine vv_iald 316 dX9_takes_315 rfl t_b17 g_r18 ?_
    refine vv_iconst 317 (v := 1) dX9_takes_316 rfl (by decide) ?_
    refine vv_isub 318 dX9_takes_317 rfl ?_
    obtain rfl := Option.some.inj hf
    exact vv_iret dX9_takes_318 rfl
  · rw [if_neg c1] at hf
    refine vv_aload_n 232 dX9_takes_231 rfl rfl ?_
    obtain ⟨b19, g_b19, hf⟩ := bind_s hf
    have t_b19 := (ldA_spec g_b19).2
    refine gf_RX9_19 235 dX9_takes_232 rfl t_a0 (ldA_spec g_b19).1 ?_
    refine vv_sipush 238 (v := 200) dX9_takes_235 rfl (by decide) ?_
    refine vv_iload 240 dX9_takes_238 rfl rfl ?_
    refine vv_imul 241 dX9_takes_240 rfl ?_
    refine vv_iload 243 dX9_takes_241 rfl rfl ?_
    refine vv_iadd 244 dX9_takes_243 rfl ?_
    refine vv_aload_n 245 dX9_takes_244 rfl rfl ?_
    obtain ⟨b20, g_b20, hf⟩ := bind_s hf
    have t_b20 := (ldA_spec g_b20).2
    refine gf_RX9_48 248 dX9_takes_245 rfl t_a0 (ldA_spec g_b20).1 ?_
    refine vv_iload 250 dX9_takes_248 rfl rfl ?_
    obtain ⟨r21, g_r21, hf⟩ := bind_s hf
    refine vv_iald 251 dX9_takes_250 rfl t_b20 g_r21 ?_
    obtain ⟨m22, g_m22, hf⟩ := bind_s hf
    refine vv_iast 252 dX9_takes_251 rfl t_b19 g_m22 ?_
    obtain ⟨z23, e_z23, hf⟩ := bd_s hf
    refine vv_iincE (q := 255) (v := z23) (c := 1) (L' := [some (.ref a0), some (.int x1), some (.int x2), some (.int x3), some (.int x4), some (.int z23)]) e_z23 dX9_takes_252 rfl rfl (by decide) (Nat.le_of_ble_eq_true rfl) rfl ?_
    refine vv_goto 225 dX9_takes_255 (by decide) ?_
    exact hk225 _ _ _ _ _ hf

theorem v_X9_takes_225 {w : Wo} {K : Kn} {a0 : Nat} {x1 : Int32} {q : (Int32 × Mem)} (t_a0 : K a0 = some (.inl 8)) : ∀ (n : Nat) (m : Mem) (x2 : Int32) (x3 : Int32) (x4 : Int32) (x5 : Int32), f_X9_takes_225 K a0 x1 n m x2 x3 x4 x5 = some q → VV w RX9 cX9_takes 6 (some .int) rm_X9_takes false (QM w K (some (.int q.1)) q.2 0 0) K 225 [some (.ref a0), some (.int x1), some (.int x2), some (.int x3), some (.int x4), some (.int x5)] [] 0 0 m := by
  intro n
  induction n with
  | zero => intro m x2 x3 x4 x5 hf; cases hf
  | succ n ih => intro m x2 x3 x4 x5 hf; exact v_X9_takes_225B (a0 := a0) (x1 := x1) t_a0 (f_X9_takes_225 K a0 x1 n) ih hf

set_option maxHeartbeats 4000000 in
theorem v_X9_takes_209 {w : Wo} {K : Kn} {a0 : Nat} {x1 : Int32} {q : (Int32 × Mem)} (t_a0 : K a0 = some (.inl 8)) {m : Mem} {x2 : Int32} {x3 : Int32} (hf : f_X9_takes_209 K a0 x1 m x2 x3 = some q) : VV w RX9 cX9_takes 6 (some .int) rm_X9_takes false (QM w K (some (.int q.1)) q.2 0 0) K 209 [some (.ref a0), some (.int x1), some (.int x2), some (.int x3), none, none] [] 0 0 m := by
  unfold f_X9_takes_209 at hf
  refine vv_bipush 211 (v := 16) dX9_takes_209 rfl (by decide) ?_
  refine vv_iload_n 212 dX9_takes_211 rfl rfl ?_
  refine vv_imul 213 dX9_takes_212 rfl ?_
  refine vv_aload_n 214 dX9_takes_213 rfl rfl ?_
  obtain ⟨b1, g_b1, hf⟩ := bind_s hf
  have t_b1 := (ldA_spec g_b1).2
  refine gf_RX9_16 217 dX9_takes_214 rfl t_a0 (ldA_spec g_b1).1 ?_
  refine vv_iload_n 218 dX9_takes_217 rfl rfl ?_
  obtain ⟨r2, g_r2, hf⟩ := bind_s hf
  refine vv_iald 219 dX9_takes_218 rfl t_b1 g_r2 ?_
  refine vv_iadd 220 dX9_takes_219 rfl ?_
  obtain ⟨z3, e_z3, hf⟩ := bd_s hf
  refine vv_istoreE (q := 222) (v := z3) (L' := [some (.ref a0), some (.int x1), some (.int x2), some (.int x3), some (.int z3), none]) e_z3 dX9_takes_220 rfl (Nat.le_of_ble_eq_true rfl) rfl ?_
  refine vv_iconst 223 (v := 0) dX9_takes_222 rfl (by decide) ?_
  refine vv_istore 225 (L' := [some (.ref a0), some (.int x1), some (.int x2), some (.int x3), some (.int z3), some (.int (0 : Int32))]) dX9_takes_223 rfl (Nat.le_of_ble_eq_true rfl) rfl ?_
  exact v_X9_takes_225 t_a0 FU _ _ _ _ _ hf

set_option maxHeartbeats 4000000 in
theorem v_X9_takes_27B {w : Wo} {K : Kn} {a0 : Nat} {x1 : Int32} {q : (Int32 × Mem)} (t_a0 : K a0 = some (.inl 8)) (k27 : Mem → Int32 → Int32 → Int32 → Option (Int32 × Mem)) (hk27 : ∀ (m : Mem) (x2 : Int32) (x3 : Int32) (x4 : Int32), k27 m x2 x3 x4 = some q → VV w RX9 cX9_takes 6 (some .int) rm_X9_takes false (QM w K (some (.int q.1)) q.2 0 0) K 27 [some (.ref a0), some (.int x1), some (.int x2), some (.int x3), some (.int x4), none] [] 0 0 m) {m : Mem} {x2 : Int32} {x3 : Int32} {x4 : Int32} (hf : f_X9_takes_27B K a0 x1 k27 m x2 x3 x4 = some q) : VV w RX9 cX9_takes 6 (some .int) rm_X9_takes false (QM w K (some (.int q.1)) q.2 0 0) K 27 [some (.ref a0), some (.int x1), some (.int x2), some (.int x3), some (.int x4), none] [] 0 0 m := by
  unfold f_X9_takes_27B at hf
  refine vv_iload 29 dX9_takes_27 rfl rfl ?_
  refine vv_iload_n 30 dX9_takes_29 rfl rfl ?_
  refine vv_icmp_ge 59 33 dX9_takes_30 rfl (by decide) (fun c1 => ?_) (fun c1 => ?_)
  · rw [if_pos c1] at hf
    refine vv_aload_n 60 dX9_takes_59 rfl rfl ?_
    obtain ⟨b2, g_b2, hf⟩ := bind_s hf
    have t_b2 := (ldA_spec g_b2).2
    refine gf_RX9_22 63 dX9_takes_60 rfl t_a0 (ldA_spec g_b2).1 ?_
    refine vv_iload_n 64 dX9_takes_63 rfl rfl ?_
    refine vv_iload_n 65 dX9_takes_64 rfl rfl ?_
    obtain ⟨m3, g_m3, hf⟩ := bind_s hf
    refine vv_iast 66 dX9_takes_65 rfl t_b2 g_m3 ?_
    refine vv_aload_n 67 dX9_takes_66 rfl rfl ?_
    obtain ⟨b4, g_b4, hf⟩ := bind_s hf
    have t_b4 := (ldA_spec g_b4).2
    refine gf_RX9_28 70 dX9_takes_67 rfl t_a0 (ldA_spec g_b4).1 ?_
    refine vv_iload_n 71 dX9_takes_70 rfl rfl ?_
    refine vv_iconst 72 (v := 1) dX9_takes_71 rfl (by decide) ?_
    obtain ⟨m5, g_m5, hf⟩ := bind_s hf
    refine vv_zast 73 dX9_takes_72 rfl t_b4 g_m5 ?_
    refine vv_aload_n 74 dX9_takes_73 rfl rfl ?_
    refine vv_iload_n 75 dX9_takes_74 rfl rfl ?_
    obtain ⟨q6, g_q6, hf⟩ := bind_s hf
    refine vv_callV 78 (st := []) (As := [.int x2]) (stk2 := []) (cl2 := 0) (sl2 := 0) dX9_takes_75 rfl lk_RX9_239 w_1240 w_25 rfl t_a0 ⟨(Nat.le_of_ble_eq_true rfl), (Nat.le_of_ble_eq_true rfl)⟩ rfl rfl ⟨(Nat.le_of_ble_eq_true rfl), (Nat.le_of_ble_eq_true rfl)⟩ rfl (Nat.le_of_ble_eq_true rfl) rfl rfl rfl rfl (c_X9_readsAll t_a0 g_q6) ?_
    refine vv_aload_n 79 dX9_takes_78 rfl rfl ?_
    refine gf_RX9_203 82 dX9_takes_79 rfl t_a0 ?_
    refine vv_if_le 93 85 dX9_takes_82 rfl (by decide) (fun c7 => ?_) (fun c7 => ?_)
    · rw [if_pos c7] at hf
      refine vv_iload_n 94 dX9_takes_93 rfl rfl ?_
      refine vv_aload_n 95 dX9_takes_94 rfl rfl ?_
      obtain ⟨b8, g_b8, hf⟩ := bind_s hf
      have t_b8 := (ldA_spec g_b8).2
      refine gf_RX9_7 98 dX9_takes_95 rfl t_a0 (ldA_spec g_b8).1 ?_
      refine vv_iload_n 99 dX9_takes_98 rfl rfl ?_
      obtain ⟨r9, g_r9, hf⟩ := bind_s hf
      refine vv_iald 100 dX9_takes_99 rfl t_b8 g_r9 ?_
      refine vv_icmp_le 106 103 dX9_takes_100 rfl (by decide) (fun c10 => ?_) (fun c10 => ?_)
      · rw [if_pos c10] at hf
        refine vv_aload_n 107 dX9_takes_106 rfl rfl ?_
        refine vv_iload_n 108 dX9_takes_107 rfl rfl ?_
        refine vv_aload_n 109 dX9_takes_108 rfl rfl ?_
        obtain ⟨b11, g_b11, hf⟩ := bind_s hf
        have t_b11 := (ldA_spec g_b11).2
        refine gf_RX9_51 112 dX9_takes_109 rfl t_a0 (ldA_spec g_b11).1 ?_
        refine vv_iconst 113 (v := 0) dX9_takes_112 rfl (by decide) ?_
        obtain ⟨r12, g_r12, hf⟩ := bind_s hf
        refine vv_lald 114 dX9_takes_113 rfl t_b11 g_r12 ?_
        refine vv_l2i 115 dX9_takes_114 rfl ?_
        obtain ⟨q13, g_q13, hf⟩ := bind_s hf
        refine vv_callV 118 (st := []) (As := [.int x1, .int ((r12).toInt32)]) (stk2 := [.int q13]) (cl2 := 0) (sl2 := 0) dX9_takes_115 rfl lk_RX9_281 w_1228 w_22 rfl t_a0 ⟨(Nat.le_of_ble_eq_true rfl), (Nat.le_of_ble_eq_true rfl)⟩ rfl rfl ⟨(Nat.le_of_ble_eq_true rfl), (Nat.le_of_ble_eq_true rfl)⟩ rfl (Nat.le_of_ble_eq_true rfl) rfl rfl rfl rfl (c_X9_isAbove t_a0 g_q13) ?_
        refine vv_if_ne 124 121 dX9_takes_118 rfl (by decide) (fun c14 => ?_) (fun c14 => ?_)
        · rw [if_pos c14] at hf
          refine vv_bipush 123 (v := (-5)) dX9_takes_121 rfl (by decide) ?_
          obtain rfl := Option.some.inj hf
          exact vv_iret dX9_takes_123 rfl
        · rw [if_neg c14] at hf
          refine vv_aload_n 125 dX9_takes_124 rfl rfl ?_
          obtain ⟨b15, g_b15, hf⟩ := bind_s hf
          have t_b15 := (ldA_spec g_b15).2
          refine gf_RX9_16 128 dX9_takes_125 rfl t_a0 (ldA_spec g_b15).1 ?_
          refine vv_iload_n 129 dX9_takes_128 rfl rfl ?_
          obtain ⟨r16, g_r16, hf⟩ := bind_s hf
          refine vv_iald 130 dX9_takes_129 rfl t_b15 g_r16 ?_
          refine vv_bipush 132 (v := 16) dX9_takes_130 rfl (by decide) ?_
          refine vv_icmp_ne 138 135 dX9_takes_132 rfl (by decide) (fun c17 => ?_) (fun c17 => ?_)
          · rw [if_pos c17] at hf
            refine vv_bipush 137 (v := (-4)) dX9_takes_135 rfl (by decide) ?_
            obtain rfl := Option.some.inj hf
            exact vv_iret dX9_takes_137 rfl
          · rw [if_neg c17] at hf
            refine vv_aload_n 139 dX9_takes_138 rfl rfl ?_
            obtain ⟨b18, g_b18, hf⟩ := bind_s hf
            have t_b18 := (ldA_spec g_b18).2
            refine gf_RX9_32 142 dX9_takes_139 rfl t_a0 (ldA_spec g_b18).1 ?_
            refine vv_iload_n 143 dX9_takes_142 rfl rfl ?_
            refine vv_aload_n 144 dX9_takes_143 rfl rfl ?_
            obtain ⟨b19, g_b19, hf⟩ := bind_s hf
            have t_b19 := (ldA_spec g_b19).2
            refine gf_RX9_51 147 dX9_takes_144 rfl t_a0 (ldA_spec g_b19).1 ?_
            refine vv_iconst 148 (v := 0) dX9_takes_147 rfl (by decide) ?_
            obtain ⟨r20, g_r20, hf⟩ := bind_s hf
            refine vv_lald 149 dX9_takes_148 rfl t_b19 g_r20 ?_
            refine vv_l2i 150 dX9_takes_149 rfl ?_
            obtain ⟨m21, g_m21, hf⟩ := bind_s hf
            refine vv_iast 151 dX9_takes_150 rfl t_b18 g_m21 ?_
            refine vv_aload_n 152 dX9_takes_151 rfl rfl ?_
            obtain ⟨b22, g_b22, hf⟩ := bind_s hf
            have t_b22 := (ldA_spec g_b22).2
            refine gf_RX9_35 155 dX9_takes_152 rfl t_a0 (ldA_spec g_b22).1 ?_
            refine vv_iload_n 156 dX9_takes_155 rfl rfl ?_
            refine vv_aload_n 157 dX9_takes_156 rfl rfl ?_
            refine gf_RX9_149 160 dX9_takes_157 rfl t_a0 ?_
            refine vv_l2i 161 dX9_takes_160 rfl ?_
            obtain ⟨m23, g_m23, hf⟩ := bind_s hf
            refine vv_iast 162 dX9_takes_161 rfl t_b22 g_m23 ?_
            refine vv_aload_n 163 dX9_takes_162 rfl rfl ?_
            obtain ⟨b24, g_b24, hf⟩ := bind_s hf
            have t_b24 := (ldA_spec g_b24).2
            refine gf_RX9_13 166 dX9_takes_163 rfl t_a0 (ldA_spec g_b24).1 ?_
            refine vv_iload_n 167 dX9_takes_166 rfl rfl ?_
            refine vv_aload_n 168 dX9_takes_167 rfl rfl ?_
            refine gf_RX9_149 171 dX9_takes_168 rfl t_a0 ?_
            refine vv_l2i 172 dX9_takes_171 rfl ?_
            obtain ⟨m25, g_m25, hf⟩ := bind_s hf
            refine vv_iast 173 dX9_takes_172 rfl t_b24 g_m25 ?_
            refine vv_aload_n 174 dX9_takes_173 rfl rfl ?_
            obtain ⟨b26, g_b26, hf⟩ := bind_s hf
            have t_b26 := (ldA_spec g_b26).2
            refine gf_RX9_16 177 dX9_takes_174 rfl t_a0 (ldA_spec g_b26).1 ?_
            refine vv_iload_n 178 dX9_takes_177 rfl rfl ?_
            obtain ⟨r27, g_r27, hf⟩ := bind_s hf
            refine vv_iald 179 dX9_takes_178 rfl t_b26 g_r27 ?_
            refine vv_if_le 209 182 dX9_takes_179 rfl (by decide) (fun c28 => ?_) (fun c28 => ?_)
            · rw [if_pos c28] at hf
              exact VV.lle (v_X9_takes_209 t_a0 hf) (lle_s (lle_s (lle_s (lle_s (lle_n (lle_s lle_nil))))))
            · rw [if_neg c28] at hf
              refine vv_aload_n 183 dX9_takes_182 rfl rfl ?_
              obtain ⟨b29, g_b29, hf⟩ := bind_s hf
              have t_b29 := (ldA_spec g_b29).2
              refine gf_RX9_28 186 dX9_takes_183 rfl t_a0 (ldA_spec g_b29).1 ?_
              refine vv_bipush 188 (v := 16) dX9_takes_186 rfl (by decide) ?_
              refine vv_iload_n 189 dX9_takes_188 rfl rfl ?_
              refine vv_imul 190 dX9_takes_189 rfl ?_
              refine vv_aload_n 191 dX9_takes_190 rfl rfl ?_
              obtain ⟨b30, g_b30, hf⟩ := bind_s hf
              have t_b30 := (ldA_spec g_b30).2
              refine gf_RX9_16 194 dX9_takes_191 rfl t_a0 (ldA_spec g_b30).1 ?_
              refine vv_iload_n 195 dX9_takes_194 rfl rfl ?_
              obtain ⟨r31, g_r31, hf⟩ := bind_s hf
              refine vv_iald 196 dX9_takes_195 rfl t_b30 g_r31 ?_
              refine vv_iadd 197 dX9_takes_196 rfl ?_
              refine vv_iconst 198 (v := 1) dX9_takes_197 rfl (by decide) ?_
              refine vv_isub 199 dX9_takes_198 rfl ?_
              obtain ⟨r32, g_r32, hf⟩ := bind_s hf
              refine vv_zald 200 dX9_takes_199 rfl t_b29 g_r32 ?_
              refine vv_if_ne 209 203 dX9_takes_200 rfl (by decide) (fun c33 => ?_) (fun c33 => ?_)
              · rw [if_pos c33] at hf
                refine vv_aload_n 204 dX9_takes_203 rfl rfl ?_
                refine vv_iload_n 205 dX9_takes_204 rfl rfl ?_
                obtain ⟨q34, g_q34, hf⟩ := bind_s hf
                refine vv_callV 208 (st := []) (As := [.int x1]) (stk2 := [.int q34.1]) (cl2 := 0) (sl2 := 0) dX9_takes_205 rfl lk_RX9_404 w_1430 w_1431 rfl t_a0 ⟨(Nat.le_of_ble_eq_true rfl), (Nat.le_of_ble_eq_true rfl)⟩ rfl rfl ⟨(Nat.le_of_ble_eq_true rfl), (Nat.le_of_ble_eq_true rfl)⟩ rfl (Nat.le_of_ble_eq_true rfl) rfl rfl rfl rfl (c_X9_seals t_a0 g_q34) ?_
                refine vv_pop 209 dX9_takes_208 rfl rfl ?_
                exact VV.lle (v_X9_takes_209 t_a0 hf) (lle_s (lle_s (lle_s (lle_s (lle_n (lle_s lle_nil))))))
              · rw [if_neg c33] at hf
                exact VV.lle (v_X9_takes_209 t_a0 hf) (lle_s (lle_s (lle_s (lle_s (lle_n (lle_s lle_nil))))))
      · rw [if_neg c10] at hf
        refine vv_bipush 105 (v := (-3)) dX9_takes_103 rfl (by decide) ?_
        obtain rfl := Option.some.inj hf
        exact vv_iret dX9_takes_105 rfl
    · rw [if_neg c7] at hf
      refine vv_bipush 87 (v := (-10)) dX9_takes_85 rfl (by decide) ?_
      refine vv_aload_n 88 dX9_takes_87 rfl rfl ?_
      refine gf_RX9_203 91 dX9_takes_88 rfl t_a0 ?_
      refine vv_isub 92 dX9_takes_91 rfl ?_
      obtain rfl := Option.some.inj hf
      exact vv_iret dX9_takes_92 rfl
  · rw [if_neg c1] at hf
    refine vv_aload_n 34 dX9_takes_33 rfl rfl ?_
    obtain ⟨b35, g_b35, hf⟩ := bind_s hf
    have t_b35 := (ldA_spec g_b35).2
    refine gf_RX9_19 37 dX9_takes_34 rfl t_a0 (ldA_spec g_b35).1 ?_
    refine vv_sipush 40 (v := 200) dX9_takes_37 rfl (by decide) ?_
    refine vv_iload_n 41 dX9_takes_40 rfl rfl ?_
    refine vv_imul 42 dX9_takes_41 rfl ?_
    refine vv_iload 44 dX9_takes_42 rfl rfl ?_
    refine vv_iadd 45 dX9_takes_44 rfl ?_
    refine vv_aload_n 46 dX9_takes_45 rfl rfl ?_
    obtain ⟨b36, g_b36, hf⟩ := bind_s hf
    have t_b36 := (ldA_spec g_b36).2
    refine gf_RX9_48 49 dX9_takes_46 rfl t_a0 (ldA_spec g_b36).1 ?_
    refine vv_iload 51 dX9_takes_49 rfl rfl ?_
    obtain ⟨r37, g_r37, hf⟩ := bind_s hf
    refine vv_iald 52 dX9_takes_51 rfl t_b36 g_r37 ?_
    obtain ⟨m38, g_m38, hf⟩ := bind_s hf
    refine vv_iast 53 dX9_takes_52 rfl t_b35 g_m38 ?_
    obtain ⟨z39, e_z39, hf⟩ := bd_s hf
    refine vv_iincE (q := 56) (v := z39) (c := 1) (L' := [some (.ref a0), some (.int x1), some (.int x2), some (.int x3), some (.int z39), none]) e_z39 dX9_takes_53 rfl rfl (by decide) (Nat.le_of_ble_eq_true rfl) rfl ?_
    refine vv_goto 27 dX9_takes_56 (by decide) ?_
    exact hk27 _ _ _ _ hf

theorem v_X9_takes_27 {w : Wo} {K : Kn} {a0 : Nat} {x1 : Int32} {q : (Int32 × Mem)} (t_a0 : K a0 = some (.inl 8)) : ∀ (n : Nat) (m : Mem) (x2 : Int32) (x3 : Int32) (x4 : Int32), f_X9_takes_27 K a0 x1 n m x2 x3 x4 = some q → VV w RX9 cX9_takes 6 (some .int) rm_X9_takes false (QM w K (some (.int q.1)) q.2 0 0) K 27 [some (.ref a0), some (.int x1), some (.int x2), some (.int x3), some (.int x4), none] [] 0 0 m := by
  intro n
  induction n with
  | zero => intro m x2 x3 x4 hf; cases hf
  | succ n ih => intro m x2 x3 x4 hf; exact v_X9_takes_27B (a0 := a0) (x1 := x1) t_a0 (f_X9_takes_27 K a0 x1 n) ih hf

set_option maxHeartbeats 4000000 in
theorem v_X9_takes_0 {w : Wo} {K : Kn} {a0 : Nat} {x1 : Int32} {q : (Int32 × Mem)} (t_a0 : K a0 = some (.inl 8)) {m : Mem} (hf : f_X9_takes K a0 x1 m = some q) : VV w RX9 cX9_takes 6 (some .int) rm_X9_takes false (QM w K (some (.int q.1)) q.2 0 0) K 0 [some (.ref a0), some (.int x1), none, none, none, none] [] 0 0 m := by
  unfold f_X9_takes at hf
  refine vv_aload_n 1 dX9_takes_0 rfl rfl ?_
  refine vv_iload_n 2 dX9_takes_1 rfl rfl ?_
  obtain ⟨q1, g_q1, hf⟩ := bind_s hf
  refine vv_callV 5 (st := []) (As := [.int x1]) (stk2 := [.int q1]) (cl2 := 0) (sl2 := 0) dX9_takes_2 rfl lk_RX9_87 w_1220 w_21 rfl t_a0 ⟨(Nat.le_of_ble_eq_true rfl), (Nat.le_of_ble_eq_true rfl)⟩ rfl rfl ⟨(Nat.le_of_ble_eq_true rfl), (Nat.le_of_ble_eq_true rfl)⟩ rfl (Nat.le_of_ble_eq_true rfl) rfl rfl rfl rfl (c_X9_isSeries t_a0 g_q1) ?_
  refine vv_if_ne 11 8 dX9_takes_5 rfl (by decide) (fun c2 => ?_) (fun c2 => ?_)
  · rw [if_pos c2] at hf
    refine vv_bipush 10 (v := (-2)) dX9_takes_8 rfl (by decide) ?_
    obtain rfl := Option.some.inj hf
    exact vv_iret dX9_takes_10 rfl
  · rw [if_neg c2] at hf
    refine vv_bipush 13 (v := 64) dX9_takes_11 rfl (by decide) ?_
    refine vv_istore_n 14 (L' := [some (.ref a0), some (.int x1), some (.int (64 : Int32)), none, none, none]) dX9_takes_13 rfl (Nat.le_of_ble_eq_true rfl) rfl ?_
    refine vv_aload_n 15 dX9_takes_14 rfl rfl ?_
    refine gf_RX9_401 18 dX9_takes_15 rfl t_a0 ?_
    obtain ⟨z3, e_z3, hf⟩ := bd_s hf
    refine vv_istore_nE (q := 19) (v := z3) (L' := [some (.ref a0), some (.int x1), some (.int (64 : Int32)), some (.int z3), none, none]) e_z3 dX9_takes_18 rfl (Nat.le_of_ble_eq_true rfl) rfl ?_
    refine vv_aload_n 20 dX9_takes_19 rfl rfl ?_
    refine vv_iconst 21 (v := 0) dX9_takes_20 rfl (by decide) ?_
    obtain ⟨m4, e_m4, hf⟩ := bd_s hf
    refine pf_RX9_401 24 dX9_takes_21 rfl t_a0 e_m4 ?_
    refine vv_iconst 25 (v := 0) dX9_takes_24 rfl (by decide) ?_
    refine vv_istore 27 (L' := [some (.ref a0), some (.int x1), some (.int (64 : Int32)), some (.int z3), some (.int (0 : Int32)), none]) dX9_takes_25 rfl (Nat.le_of_ble_eq_true rfl) rfl ?_
    exact v_X9_takes_27 t_a0 FU _ _ _ _ hf

theorem c_X9_takes {w : Wo} {K : Kn} {a0 : Nat} {x1 : Int32} {q : (Int32 × Mem)} {m : Mem} (t_a0 : K a0 = some (.inl 8)) (hf : F_X9_takes K m a0 x1 = some q) : MM w K K yX9_takes cX9_takes 6 (some .int) rm_X9_takes [.ref a0, .int x1] m (some (.int q.1)) q.2 0 0 :=
  mm_of (ini := false) (n := 4) (plainFor_of_name (by decide)) rfl (fun h => by first | rfl | cases h) (Nat.le_of_ble_eq_true rfl) rfl (v_X9_takes_0 t_a0 hf)
