/-! ===== the walks ===== -/
abbrev rm_X9_isLess : Room := { frames := 1, cells := 0, slots := 0, locals := 25 }
abbrev rm_X9_told : Room := { frames := 2, cells := 0, slots := 0, locals := 46 }
abbrev rm_X9_value : Room := { frames := 9, cells := 0, slots := 0, locals := 215 }
abbrev rm_X9_above : Room := { frames := 9, cells := 0, slots := 0, locals := 215 }
abbrev rm_X9_counted : Room := { frames := 7, cells := 0, slots := 0, locals := 168 }
abbrev rm_X9_ways : Room := { frames := 8, cells := 0, slots := 0, locals := 193 }
abbrev rm_X9_window : Room := { frames := 7, cells := 0, slots := 0, locals := 168 }
abbrev rm_X9_gap : Room := { frames := 8, cells := 0, slots := 0, locals := 192 }
abbrev rm_X9_row : Room := { frames := 8, cells := 0, slots := 0, locals := 192 }
abbrev rm_X9_areTwo : Room := { frames := 2, cells := 0, slots := 0, locals := 46 }
abbrev rm_X9_gathersTwo : Room := { frames := 8, cells := 0, slots := 0, locals := 192 }
abbrev rm_X9_both : Room := { frames := 9, cells := 0, slots := 0, locals := 215 }
abbrev rm_X9_differ : Room := { frames := 9, cells := 0, slots := 0, locals := 215 }
abbrev rm_X9_best : Room := { frames := 8, cells := 0, slots := 0, locals := 192 }
abbrev rm_X9_thin : Room := { frames := 8, cells := 0, slots := 0, locals := 192 }
abbrev rm_X9_cuts : Room := { frames := 9, cells := 0, slots := 0, locals := 215 }
abbrev rm_X9_join : Room := { frames := 9, cells := 0, slots := 0, locals := 215 }
set_option maxHeartbeats 4000000 in
theorem v_X9_isLess_0 {w : Wo} {K : Kn} {x0 : Int64} {x2 : Int64} {q : Int32} {m : Mem} (hf : f_X9_isLess x0 x2 = some q) : VV w RX9 cX9_isLess 4 (some .boolean) rm_X9_isLess false (QM w K (some (.int q)) m 0 0) K 0 [some (.long x0), none, some (.long x2), none] [] 0 0 m := by
  unfold f_X9_isLess at hf
  refine vv_lload_n 1 dX9_isLess_0 rfl rfl ?_
  obtain ⟨h1, hf⟩ := gd_s hf
  refine vv_lb2d 4 dX9_isLess_1 rfl w_1521 w_1523 w_1522 w_76 h1 (Nat.le_of_ble_eq_true rfl) (Nat.le_of_ble_eq_true rfl) ?_
  refine vv_lload_n 5 dX9_isLess_4 rfl rfl ?_
  obtain ⟨h2, hf⟩ := gd_s hf
  refine vv_lb2d 8 dX9_isLess_5 rfl w_1521 w_1523 w_1522 w_76 h2 (Nat.le_of_ble_eq_true rfl) (Nat.le_of_ble_eq_true rfl) ?_
  refine vv_dcmp 9 dX9_isLess_8 rfl ?_
  refine vv_if_ge 16 12 dX9_isLess_9 rfl (by decide) (fun c3 => ?_) (fun c3 => ?_)
  · rw [if_pos c3] at hf
    refine vv_iconst 17 (v := 0) dX9_isLess_16 rfl (by decide) ?_
    obtain rfl := Option.some.inj hf
    exact vv_zret dX9_isLess_17 rfl (Or.inl rfl)
  · rw [if_neg c3] at hf
    refine vv_iconst 13 (v := 1) dX9_isLess_12 rfl (by decide) ?_
    refine vv_goto 17 dX9_isLess_13 (by decide) ?_
    obtain rfl := Option.some.inj hf
    exact vv_zret dX9_isLess_17 rfl (Or.inr rfl)

theorem c_X9_isLess {w : Wo} {K : Kn} {x0 : Int64} {x2 : Int64} {q : Int32} {m : Mem} (hf : F_X9_isLess x0 x2 = some q) : MM w K K yX9_isLess cX9_isLess 4 (some .boolean) rm_X9_isLess [.long x0, .long x2] m (some (.int q)) m 0 0 :=
  mm_of (ini := false) (n := 0) (plainFor_of_name (by decide)) rfl (fun h => by first | rfl | cases h) (Nat.le_of_ble_eq_true rfl) rfl (v_X9_isLess_0 hf)

set_option maxHeartbeats 4000000 in
theorem v_X9_told_0 {w : Wo} {K : Kn} {x0 : UInt64} {y0 : UInt64} {q : Int64} {m : Mem} (al_x0 : alike64 y0 x0 = true) (hf : f_X9_told x0 = some q) : VV w RX9 cX9_told 2 (some .long) rm_X9_told false (QM w K (some (.long q)) m 0 0) K 0 [some (.double y0), none] [] 0 0 m := by
  unfold f_X9_told at hf
  refine vv_dload_n 1 dX9_told_0 rfl rfl ?_
  refine vv_dload_n 2 dX9_told_1 rfl rfl ?_
  refine vv_dcmp 3 dX9_told_2 rfl ?_
  rw [dcmp_alike al_x0 al_x0]
  refine vv_if_ne 13 6 dX9_told_3 rfl (by decide) (fun c1 => ?_) (fun c1 => ?_)
  · rw [if_pos c1] at hf
    refine vv_dload_n 7 dX9_told_6 rfl rfl ?_
    obtain ⟨q2, g_q2, hf⟩ := bind_s hf
    refine vv_callS 10 (st := []) (As := [.double y0]) (stk2 := [.long q2]) (cl2 := 0) (sl2 := 0) dX9_told_7 rfl lk_RX9_367 w_1528 ⟨(Nat.le_of_ble_eq_true rfl), (Nat.le_of_ble_eq_true rfl)⟩ rfl rfl ⟨(Nat.le_of_ble_eq_true rfl), (Nat.le_of_ble_eq_true rfl)⟩ rfl (Nat.le_of_ble_eq_true rfl) rfl rfl rfl rfl (c_Jxe99ae_doubleToLongBits_ccdee al_x0 g_q2) ?_
    refine vv_goto 16 dX9_told_10 (by decide) ?_
    obtain rfl := Option.some.inj hf
    exact vv_lret dX9_told_16 rfl
  · rw [if_neg c1] at hf
    refine vv_ldc2 16 (v := 9221120237041090560) dX9_told_13 rfl w_1517 ?_
    obtain rfl := Option.some.inj hf
    exact vv_lret dX9_told_16 rfl

theorem c_X9_told {w : Wo} {K : Kn} {x0 : UInt64} {y0 : UInt64} {q : Int64} {m : Mem} (al_x0 : alike64 y0 x0 = true) (hf : F_X9_told x0 = some q) : MM w K K yX9_told cX9_told 2 (some .long) rm_X9_told [.double y0] m (some (.long q)) m 0 0 :=
  mm_of (ini := false) (n := 0) (plainFor_of_name (by decide)) rfl (fun h => by first | rfl | cases h) (Nat.le_of_ble_eq_true rfl) rfl (v_X9_told_0 al_x0 hf)

set_option maxHeartbeats 4000000 in
theorem v_X9_value_155 {w : Wo} {K : Kn} {a0 : Nat} {x1 : Int32} {x2 : Int32} {x3 : Int32} {x4 : Int32} {q : (Int64 × Mem)} (t_a0 : K a0 = some (.inl 8)) (k49 : Mem → Int32 → Int64 → UInt64 → Int32 → Option (Int64 × Mem)) (hk49 : ∀ (m : Mem) (x5 : Int32) (x6 : Int64) (x8 : UInt64) (x10 : Int32) (y8 : UInt64), alike64 y8 x8 = true → k49 m x5 x6 x8 x10 = some q → VV w RX9 cX9_value 14 (some .long) rm_X9_value false (QM w K (some (.long q.1)) q.2 0 0) K 49 [some (.ref a0), none, none, none, some (.int x4), some (.int x5), some (.long x6), none, some (.double y8), none, some (.int x10), none, none, none] [] 0 0 m) {m : Mem} {x5 : Int32} {x6 : Int64} {x8 : UInt64} {x10 : Int32} {y8 : UInt64} (al_x8 : alike64 y8 x8 = true) (hf : f_X9_value_155 K a0 x1 x2 x3 x4 k49 m x5 x6 x8 x10 = some q) : VV w RX9 cX9_value 14 (some .long) rm_X9_value false (QM w K (some (.long q.1)) q.2 0 0) K 155 [some (.ref a0), none, none, none, some (.int x4), some (.int x5), some (.long x6), none, some (.double y8), none, some (.int x10), none, none, none] [] 0 0 m := by
  unfold f_X9_value_155 at hf
  obtain ⟨z1, e_z1, hf⟩ := bd_s hf
  refine vv_iincE (q := 158) (v := z1) (c := 1) (L' := [some (.ref a0), none, none, none, some (.int x4), some (.int x5), some (.long x6), none, some (.double y8), none, some (.int z1), none, none, none]) e_z1 dX9_value_155 rfl rfl (by decide) (Nat.le_of_ble_eq_true rfl) rfl ?_
  refine vv_goto 49 dX9_value_158 (by decide) ?_
  exact hk49 _ _ _ _ _ _ al_x8 hf

set_option maxHeartbeats 4000000 in
theorem v_X9_value_140 {w : Wo} {K : Kn} {a0 : Nat} {x1 : Int32} {x2 : Int32} {x3 : Int32} {x4 : Int32} {q : (Int64 × Mem)} (t_a0 : K a0 = some (.inl 8)) (k49 : Mem → Int32 → Int64 → UInt64 → Int32 → Option (Int64 × Mem)) (hk49 : ∀ (m : Mem) (x5 : Int32) (x6 : Int64) (x8 : UInt64) (x10 : Int32) (y8 : UInt64), alike64 y8 x8 = true → k49 m x5 x6 x8 x10 = some q → VV w RX9 cX9_value 14 (some .long) rm_X9_value false (QM w K (some (.long q.1)) q.2 0 0) K 49 [some (.ref a0), none, none, none, some (.int x4), some (.int x5), some (.long x6), none, some (.double y8), none, some (.int x10), none, none, none] [] 0 0 m) {m : Mem} {x8 : UInt64} {x10 : Int32} {x11 : Int64} {s0 : Int64} {y8 : UInt64} (al_x8 : alike64 y8 x8 = true) (hf : f_X9_value_140 K a0 x1 x2 x3 x4 k49 m x8 x10 x11 s0 = some q) : VV w RX9 cX9_value 14 (some .long) rm_X9_value false (QM w K (some (.long q.1)) q.2 0 0) K 140 [some (.ref a0), none, none, none, some (.int x4), none, none, none, some (.double y8), none, some (.int x10), some (.long x11), none, none] [.long s0] 0 0 m := by
  unfold f_X9_value_140 at hf
  refine vv_lstore 142 (L' := [some (.ref a0), none, none, none, some (.int x4), none, some (.long s0), none, some (.double y8), none, some (.int x10), some (.long x11), none, none]) dX9_value_140 rfl (Nat.le_of_ble_eq_true rfl) rfl ?_
  refine vv_iconst 143 (v := 1) dX9_value_142 rfl (by decide) ?_
  refine vv_istore 145 (L' := [some (.ref a0), none, none, none, some (.int x4), some (.int (1 : Int32)), some (.long s0), none, some (.double y8), none, some (.int x10), some (.long x11), none, none]) dX9_value_143 rfl (Nat.le_of_ble_eq_true rfl) rfl ?_
  refine vv_dload 147 dX9_value_145 rfl rfl ?_
  refine vv_lload 149 dX9_value_147 rfl rfl ?_
  obtain ⟨h1, hf⟩ := gd_s hf
  refine vv_lb2d 152 dX9_value_149 rfl w_1521 w_1523 w_1522 w_76 h1 (Nat.le_of_ble_eq_true rfl) (Nat.le_of_ble_eq_true rfl) ?_
  refine vv_dadd 153 dX9_value_152 rfl (fun d2 h_d2 => ?_)
  refine vv_dstore 155 (L' := [some (.ref a0), none, none, none, some (.int x4), some (.int (1 : Int32)), some (.long s0), none, some (.double d2), none, some (.int x10), some (.long x11), none, none]) dX9_value_153 rfl (Nat.le_of_ble_eq_true rfl) rfl ?_
  exact VV.lle (v_X9_value_155 t_a0 k49 hk49 (dadd_alike h_d2 al_x8 (alike_refl _)) hf) (lle_s (lle_s (lle_s (lle_s (lle_s (lle_s (lle_s (lle_s (lle_s (lle_s (lle_s (lle_n (lle_s (lle_s lle_nil))))))))))))))

set_option maxHeartbeats 4000000 in
theorem v_X9_value_133 {w : Wo} {K : Kn} {a0 : Nat} {x1 : Int32} {x2 : Int32} {x3 : Int32} {x4 : Int32} {q : (Int64 × Mem)} (t_a0 : K a0 = some (.inl 8)) (k49 : Mem → Int32 → Int64 → UInt64 → Int32 → Option (Int64 × Mem)) (hk49 : ∀ (m : Mem) (x5 : Int32) (x6 : Int64) (x8 : UInt64) (x10 : Int32) (y8 : UInt64), alike64 y8 x8 = true → k49 m x5 x6 x8 x10 = some q → VV w RX9 cX9_value 14 (some .long) rm_X9_value false (QM w K (some (.long q.1)) q.2 0 0) K 49 [some (.ref a0), none, none, none, some (.int x4), some (.int x5), some (.long x6), none, some (.double y8), none, some (.int x10), none, none, none] [] 0 0 m) {m : Mem} {x8 : UInt64} {x10 : Int32} {x11 : Int64} {y8 : UInt64} (al_x8 : alike64 y8 x8 = true) (hf : f_X9_value_133 K a0 x1 x2 x3 x4 k49 m x8 x10 x11 = some q) : VV w RX9 cX9_value 14 (some .long) rm_X9_value false (QM w K (some (.long q.1)) q.2 0 0) K 133 [some (.ref a0), none, none, none, some (.int x4), none, none, none, some (.double y8), none, some (.int x10), some (.long x11), none, none] [] 0 0 m := by
  unfold f_X9_value_133 at hf
  refine vv_lload 135 dX9_value_133 rfl rfl ?_
  refine vv_goto 140 dX9_value_135 (by decide) ?_
  exact v_X9_value_140 t_a0 k49 hk49 al_x8 hf

set_option maxHeartbeats 4000000 in
theorem v_X9_value_121 {w : Wo} {K : Kn} {a0 : Nat} {x1 : Int32} {x2 : Int32} {x3 : Int32} {x4 : Int32} {q : (Int64 × Mem)} (t_a0 : K a0 = some (.inl 8)) (k49 : Mem → Int32 → Int64 → UInt64 → Int32 → Option (Int64 × Mem)) (hk49 : ∀ (m : Mem) (x5 : Int32) (x6 : Int64) (x8 : UInt64) (x10 : Int32) (y8 : UInt64), alike64 y8 x8 = true → k49 m x5 x6 x8 x10 = some q → VV w RX9 cX9_value 14 (some .long) rm_X9_value false (QM w K (some (.long q.1)) q.2 0 0) K 49 [some (.ref a0), none, none, none, some (.int x4), some (.int x5), some (.long x6), none, some (.double y8), none, some (.int x10), none, none, none] [] 0 0 m) {m : Mem} {x5 : Int32} {x6 : Int64} {x8 : UInt64} {x10 : Int32} {x11 : Int64} {s0 : Int32} {y8 : UInt64} (al_x8 : alike64 y8 x8 = true) (hf : f_X9_value_121 K a0 x1 x2 x3 x4 k49 m x5 x6 x8 x10 x11 s0 = some q) : VV w RX9 cX9_value 14 (some .long) rm_X9_value false (QM w K (some (.long q.1)) q.2 0 0) K 121 [some (.ref a0), none, none, none, some (.int x4), some (.int x5), some (.long x6), none, some (.double y8), none, some (.int x10), some (.long x11), none, none] [.int s0] 0 0 m := by
  unfold f_X9_value_121 at hf
  refine vv_istore 123 (L' := [some (.ref a0), none, none, none, some (.int x4), some (.int x5), some (.long x6), none, some (.double y8), none, some (.int x10), some (.long x11), none, some (.int s0)]) dX9_value_121 rfl (Nat.le_of_ble_eq_true rfl) rfl ?_
  refine vv_iload 125 dX9_value_123 rfl rfl ?_
  refine vv_if_eq 133 128 dX9_value_125 rfl (by decide) (fun c1 => ?_) (fun c1 => ?_)
  · rw [if_pos c1] at hf
    exact VV.lle (v_X9_value_133 t_a0 k49 hk49 al_x8 hf) (lle_s (lle_s (lle_s (lle_s (lle_s (lle_n (lle_n (lle_s (lle_s (lle_s (lle_s (lle_s (lle_s (lle_n lle_nil))))))))))))))
  · rw [if_neg c1] at hf
    refine vv_iload 130 dX9_value_128 rfl rfl ?_
    refine vv_if_eq 138 133 dX9_value_130 rfl (by decide) (fun c2 => ?_) (fun c2 => ?_)
    · rw [if_pos c2] at hf
      refine vv_lload 140 dX9_value_138 rfl rfl ?_
      exact VV.lle (v_X9_value_140 t_a0 k49 hk49 al_x8 hf) (lle_s (lle_s (lle_s (lle_s (lle_s (lle_n (lle_n (lle_s (lle_s (lle_s (lle_s (lle_s (lle_s (lle_n lle_nil))))))))))))))
    · rw [if_neg c2] at hf
      exact VV.lle (v_X9_value_133 t_a0 k49 hk49 al_x8 hf) (lle_s (lle_s (lle_s (lle_s (lle_s (lle_n (lle_n (lle_s (lle_s (lle_s (lle_s (lle_s (lle_s (lle_n lle_nil))))))))))))))

set_option maxHeartbeats 4000000 in
theorem v_X9_value_116 {w : Wo} {K : Kn} {a0 : Nat} {x1 : Int32} {x2 : Int32} {x3 : Int32} {x4 : Int32} {q : (Int64 × Mem)} (t_a0 : K a0 = some (.inl 8)) (k49 : Mem → Int32 → Int64 → UInt64 → Int32 → Option (Int64 × Mem)) (hk49 : ∀ (m : Mem) (x5 : Int32) (x6 : Int64) (x8 : UInt64) (x10 : Int32) (y8 : UInt64), alike64 y8 x8 = true → k49 m x5 x6 x8 x10 = some q → VV w RX9 cX9_value 14 (some .long) rm_X9_value false (QM w K (some (.long q.1)) q.2 0 0) K 49 [some (.ref a0), none, none, none, some (.int x4), some (.int x5), some (.long x6), none, some (.double y8), none, some (.int x10), none, none, none] [] 0 0 m) {m : Mem} {x5 : Int32} {x6 : Int64} {x8 : UInt64} {x10 : Int32} {x11 : Int64} {y8 : UInt64} (al_x8 : alike64 y8 x8 = true) (hf : f_X9_value_116 K a0 x1 x2 x3 x4 k49 m x5 x6 x8 x10 x11 = some q) : VV w RX9 cX9_value 14 (some .long) rm_X9_value false (QM w K (some (.long q.1)) q.2 0 0) K 116 [some (.ref a0), none, none, none, some (.int x4), some (.int x5), some (.long x6), none, some (.double y8), none, some (.int x10), some (.long x11), none, none] [] 0 0 m := by
  unfold f_X9_value_116 at hf
  refine vv_iconst 117 (v := 1) dX9_value_116 rfl (by decide) ?_
  refine vv_goto 121 dX9_value_117 (by decide) ?_
  exact v_X9_value_121 t_a0 k49 hk49 al_x8 hf

set_option maxHeartbeats 4000000 in
theorem v_X9_value_120 {w : Wo} {K : Kn} {a0 : Nat} {x1 : Int32} {x2 : Int32} {x3 : Int32} {x4 : Int32} {q : (Int64 × Mem)} (t_a0 : K a0 = some (.inl 8)) (k49 : Mem → Int32 → Int64 → UInt64 → Int32 → Option (Int64 × Mem)) (hk49 : ∀ (m : Mem) (x5 : Int32) (x6 : Int64) (x8 : UInt64) (x10 : Int32) (y8 : UInt64), alike64 y8 x8 = true → k49 m x5 x6 x8 x10 = some q → VV w RX9 cX9_value 14 (some .long) rm_X9_value false (QM w K (some (.long q.1)) q.2 0 0) K 49 [some (.ref a0), none, none, none, some (.int x4), some (.int x5), some (.long x6), none, some (.double y8), none, some (.int x10), none, none, none] [] 0 0 m) {m : Mem} {x5 : Int32} {x6 : Int64} {x8 : UInt64} {x10 : Int32} {x11 : Int64} {y8 : UInt64} (al_x8 : alike64 y8 x8 = true) (hf : f_X9_value_120 K a0 x1 x2 x3 x4 k49 m x5 x6 x8 x10 x11 = some q) : VV w RX9 cX9_value 14 (some .long) rm_X9_value false (QM w K (some (.long q.1)) q.2 0 0) K 120 [some (.ref a0), none, none, none, some (.int x4), some (.int x5), some (.long x6), none, some (.double y8), none, some (.int x10), some (.long x11), none, none] [] 0 0 m := by
  unfold f_X9_value_120 at hf
  refine vv_iconst 121 (v := 0) dX9_value_120 rfl (by decide) ?_
  exact v_X9_value_121 t_a0 k49 hk49 al_x8 hf

set_option maxHeartbeats 4000000 in
theorem v_X9_value_100 {w : Wo} {K : Kn} {a0 : Nat} {x1 : Int32} {x2 : Int32} {x3 : Int32} {x4 : Int32} {q : (Int64 × Mem)} (t_a0 : K a0 = some (.inl 8)) (k49 : Mem → Int32 → Int64 → UInt64 → Int32 → Option (Int64 × Mem)) (hk49 : ∀ (m : Mem) (x5 : Int32) (x6 : Int64) (x8 : UInt64) (x10 : Int32) (y8 : UInt64), alike64 y8 x8 = true → k49 m x5 x6 x8 x10 = some q → VV w RX9 cX9_value 14 (some .long) rm_X9_value false (QM w K (some (.long q.1)) q.2 0 0) K 49 [some (.ref a0), none, none, none, some (.int x4), some (.int x5), some (.long x6), none, some (.double y8), none, some (.int x10), none, none, none] [] 0 0 m) {m : Mem} {x5 : Int32} {x6 : Int64} {x8 : UInt64} {x10 : Int32} {x11 : Int64} {y8 : UInt64} (al_x8 : alike64 y8 x8 = true) (hf : f_X9_value_100 K a0 x1 x2 x3 x4 k49 m x5 x6 x8 x10 x11 = some q) : VV w RX9 cX9_value 14 (some .long) rm_X9_value false (QM w K (some (.long q.1)) q.2 0 0) K 100 [some (.ref a0), none, none, none, some (.int x4), some (.int x5), some (.long x6), none, some (.double y8), none, some (.int x10), some (.long x11), none, none] [] 0 0 m := by
  unfold f_X9_value_100 at hf
  refine vv_iload 102 dX9_value_100 rfl rfl ?_
  refine vv_iconst 103 (v := 3) dX9_value_102 rfl (by decide) ?_
  refine vv_icmp_ne 120 106 dX9_value_103 rfl (by decide) (fun c1 => ?_) (fun c1 => ?_)
  · rw [if_pos c1] at hf
    refine vv_lload 108 dX9_value_106 rfl rfl ?_
    refine vv_lload 110 dX9_value_108 rfl rfl ?_
    obtain ⟨q2, g_q2, hf⟩ := bind_s hf
    refine vv_callS 113 (st := []) (As := [.long x6, .long x11]) (stk2 := [.int q2]) (cl2 := 0) (sl2 := 0) dX9_value_110 rfl lk_RX9_375 w_1519 ⟨(Nat.le_of_ble_eq_true rfl), (Nat.le_of_ble_eq_true rfl)⟩ rfl rfl ⟨(Nat.le_of_ble_eq_true rfl), (Nat.le_of_ble_eq_true rfl)⟩ rfl (Nat.le_of_ble_eq_true rfl) rfl rfl rfl rfl (c_X9_isLess g_q2) ?_
    refine vv_if_eq 120 116 dX9_value_113 rfl (by decide) (fun c3 => ?_) (fun c3 => ?_)
    · rw [if_pos c3] at hf
      exact v_X9_value_120 t_a0 k49 hk49 al_x8 hf
    · rw [if_neg c3] at hf
      exact v_X9_value_116 t_a0 k49 hk49 al_x8 hf
  · rw [if_neg c1] at hf
    exact v_X9_value_120 t_a0 k49 hk49 al_x8 hf

set_option maxHeartbeats 4000000 in
theorem v_X9_value_49B {w : Wo} {K : Kn} {a0 : Nat} {x1 : Int32} {x2 : Int32} {x3 : Int32} {x4 : Int32} {q : (Int64 × Mem)} (t_a0 : K a0 = some (.inl 8)) (k49 : Mem → Int32 → Int64 → UInt64 → Int32 → Option (Int64 × Mem)) (hk49 : ∀ (m : Mem) (x5 : Int32) (x6 : Int64) (x8 : UInt64) (x10 : Int32) (y8 : UInt64), alike64 y8 x8 = true → k49 m x5 x6 x8 x10 = some q → VV w RX9 cX9_value 14 (some .long) rm_X9_value false (QM w K (some (.long q.1)) q.2 0 0) K 49 [some (.ref a0), none, none, none, some (.int x4), some (.int x5), some (.long x6), none, some (.double y8), none, some (.int x10), none, none, none] [] 0 0 m) {m : Mem} {x5 : Int32} {x6 : Int64} {x8 : UInt64} {x10 : Int32} {y8 : UInt64} (al_x8 : alike64 y8 x8 = true) (hf : f_X9_value_49B K a0 x1 x2 x3 x4 k49 m x5 x6 x8 x10 = some q) : VV w RX9 cX9_value 14 (some .long) rm_X9_value false (QM w K (some (.long q.1)) q.2 0 0) K 49 [some (.ref a0), none, none, none, some (.int x4), some (.int x5), some (.long x6), none, some (.double y8), none, some (.int x10), none, none, none] [] 0 0 m := by
  unfold f_X9_value_49B at hf
  refine vv_iload 51 dX9_value_49 rfl rfl ?_
  refine vv_aload_n 52 dX9_value_51 rfl rfl ?_
  refine gf_RX9_340 55 dX9_value_52 rfl t_a0 ?_
  refine vv_icmp_ge 161 58 dX9_value_55 rfl (by decide) (fun c1 => ?_) (fun c1 => ?_)
  · rw [if_pos c1] at hf
    refine vv_iload 163 dX9_value_161 rfl rfl ?_
    refine vv_if_ne 172 166 dX9_value_163 rfl (by decide) (fun c2 => ?_) (fun c2 => ?_)
    · rw [if_pos c2] at hf
      refine vv_ldc2 169 (v := 9221120237041090560) dX9_value_166 rfl w_1517 ?_
      refine vv_goto 188 dX9_value_169 (by decide) ?_
      obtain rfl := Option.some.inj hf
      exact vv_lret dX9_value_188 rfl
    · rw [if_neg c2] at hf
      refine vv_iload 174 dX9_value_172 rfl rfl ?_
      refine vv_iconst 175 (v := 4) dX9_value_174 rfl (by decide) ?_
      refine vv_icmp_ne 186 178 dX9_value_175 rfl (by decide) (fun c3 => ?_) (fun c3 => ?_)
      · rw [if_pos c3] at hf
        refine vv_dload 180 dX9_value_178 rfl rfl ?_
        obtain ⟨q4, g_q4, hf⟩ := bind_s hf
        refine vv_callS 183 (st := []) (As := [.double y8]) (stk2 := [.long q4]) (cl2 := 0) (sl2 := 0) dX9_value_180 rfl lk_RX9_379 w_1525 ⟨(Nat.le_of_ble_eq_true rfl), (Nat.le_of_ble_eq_true rfl)⟩ rfl rfl ⟨(Nat.le_of_ble_eq_true rfl), (Nat.le_of_ble_eq_true rfl)⟩ rfl (Nat.le_of_ble_eq_true rfl) rfl rfl rfl rfl (c_X9_told al_x8 g_q4) ?_
        refine vv_goto 188 dX9_value_183 (by decide) ?_
        obtain rfl := Option.some.inj hf
        exact vv_lret dX9_value_188 rfl
      · rw [if_neg c3] at hf
        refine vv_lload 188 dX9_value_186 rfl rfl ?_
        obtain rfl := Option.some.inj hf
        exact vv_lret dX9_value_188 rfl
  · rw [if_neg c1] at hf
    refine vv_aload_n 59 dX9_value_58 rfl rfl ?_
    obtain ⟨b5, g_b5, hf⟩ := bind_s hf
    have t_b5 := (ldA_spec g_b5).2
    refine gf_RX9_69 62 dX9_value_59 rfl t_a0 (ldA_spec g_b5).1 ?_
    refine vv_iload 64 dX9_value_62 rfl rfl ?_
    obtain ⟨r6, g_r6, hf⟩ := bind_s hf
    refine vv_lald 65 dX9_value_64 rfl t_b5 g_r6 ?_
    refine vv_lstore 67 (L' := [some (.ref a0), none, none, none, some (.int x4), some (.int x5), some (.long x6), none, some (.double y8), none, some (.int x10), some (.long r6), none, none]) dX9_value_65 rfl (Nat.le_of_ble_eq_true rfl) rfl ?_
    refine vv_lload 69 dX9_value_67 rfl rfl ?_
    obtain ⟨q7, g_q7, hf⟩ := bind_s hf
    refine vv_callS 72 (st := []) (As := [.long r6]) (stk2 := [.int q7]) (cl2 := 0) (sl2 := 0) dX9_value_69 rfl lk_RX9_355 w_1507 ⟨(Nat.le_of_ble_eq_true rfl), (Nat.le_of_ble_eq_true rfl)⟩ rfl rfl ⟨(Nat.le_of_ble_eq_true rfl), (Nat.le_of_ble_eq_true rfl)⟩ rfl (Nat.le_of_ble_eq_true rfl) rfl rfl rfl rfl (c_X9_isNumber g_q7) ?_
    refine vv_if_ne 78 75 dX9_value_72 rfl (by decide) (fun c8 => ?_) (fun c8 => ?_)
    · rw [if_pos c8] at hf
      refine vv_goto 155 dX9_value_75 (by decide) ?_
      exact VV.lle (v_X9_value_155 t_a0 k49 hk49 al_x8 hf) (lle_s (lle_s (lle_s (lle_s (lle_s (lle_s (lle_s (lle_s (lle_s (lle_s (lle_s (lle_n (lle_s (lle_s lle_nil))))))))))))))
    · rw [if_neg c8] at hf
      refine vv_iload 80 dX9_value_78 rfl rfl ?_
      refine vv_iconst 81 (v := 1) dX9_value_80 rfl (by decide) ?_
      refine vv_icmp_eq 116 84 dX9_value_81 rfl (by decide) (fun c9 => ?_) (fun c9 => ?_)
      · rw [if_pos c9] at hf
        exact v_X9_value_116 t_a0 k49 hk49 al_x8 hf
      · rw [if_neg c9] at hf
        refine vv_iload 86 dX9_value_84 rfl rfl ?_
        refine vv_iconst 87 (v := 2) dX9_value_86 rfl (by decide) ?_
        refine vv_icmp_ne 100 90 dX9_value_87 rfl (by decide) (fun c10 => ?_) (fun c10 => ?_)
        · rw [if_pos c10] at hf
          refine vv_lload 92 dX9_value_90 rfl rfl ?_
          refine vv_lload 94 dX9_value_92 rfl rfl ?_
          obtain ⟨q11, g_q11, hf⟩ := bind_s hf
          refine vv_callS 97 (st := []) (As := [.long r6, .long x6]) (stk2 := [.int q11]) (cl2 := 0) (sl2 := 0) dX9_value_94 rfl lk_RX9_375 w_1519 ⟨(Nat.le_of_ble_eq_true rfl), (Nat.le_of_ble_eq_true rfl)⟩ rfl rfl ⟨(Nat.le_of_ble_eq_true rfl), (Nat.le_of_ble_eq_true rfl)⟩ rfl (Nat.le_of_ble_eq_true rfl) rfl rfl rfl rfl (c_X9_isLess g_q11) ?_
          refine vv_if_ne 116 100 dX9_value_97 rfl (by decide) (fun c12 => ?_) (fun c12 => ?_)
          · rw [if_pos c12] at hf
            exact v_X9_value_100 t_a0 k49 hk49 al_x8 hf
          · rw [if_neg c12] at hf
            exact v_X9_value_116 t_a0 k49 hk49 al_x8 hf
        · rw [if_neg c10] at hf
          exact v_X9_value_100 t_a0 k49 hk49 al_x8 hf

theorem v_X9_value_49 {w : Wo} {K : Kn} {a0 : Nat} {x1 : Int32} {x2 : Int32} {x3 : Int32} {x4 : Int32} {q : (Int64 × Mem)} (t_a0 : K a0 = some (.inl 8)) : ∀ (n : Nat) (m : Mem) (x5 : Int32) (x6 : Int64) (x8 : UInt64) (x10 : Int32) (y8 : UInt64), alike64 y8 x8 = true → f_X9_value_49 K a0 x1 x2 x3 x4 n m x5 x6 x8 x10 = some q → VV w RX9 cX9_value 14 (some .long) rm_X9_value false (QM w K (some (.long q.1)) q.2 0 0) K 49 [some (.ref a0), none, none, none, some (.int x4), some (.int x5), some (.long x6), none, some (.double y8), none, some (.int x10), none, none, none] [] 0 0 m := by
  intro n
  induction n with
  | zero => intro m x5 x6 x8 x10 y8 al_x8 hf; cases hf
  | succ n ih => intro m x5 x6 x8 x10 y8 al_x8 hf; exact v_X9_value_49B (a0 := a0) (x1 := x1) (x2 := x2) (x3 := x3) (x4 := x4) t_a0 (f_X9_value_49 K a0 x1 x2 x3 x4 n) ih al_x8 hf

set_option maxHeartbeats 4000000 in
theorem v_X9_value_0 {w : Wo} {K : Kn} {a0 : Nat} {x1 : Int32} {x2 : Int32} {x3 : Int32} {x4 : Int32} {q : (Int64 × Mem)} (t_a0 : K a0 = some (.inl 8)) {m : Mem} (hf : f_X9_value K a0 x1 x2 x3 x4 m = some q) : VV w RX9 cX9_value 14 (some .long) rm_X9_value false (QM w K (some (.long q.1)) q.2 0 0) K 0 [some (.ref a0), some (.int x1), some (.int x2), some (.int x3), some (.int x4), none, none, none, none, none, none, none, none, none] [] 0 0 m := by
  unfold f_X9_value at hf
  refine vv_aload_n 1 dX9_value_0 rfl rfl ?_
  refine vv_iload_n 2 dX9_value_1 rfl rfl ?_
  refine vv_iload_n 3 dX9_value_2 rfl rfl ?_
  refine vv_iload_n 4 dX9_value_3 rfl rfl ?_
  obtain ⟨q1, g_q1, hf⟩ := bind_s hf
  refine vv_callV 7 (st := []) (As := [.int x1, .int x2, .int x3]) (stk2 := [.int q1]) (cl2 := 0) (sl2 := 0) dX9_value_4 rfl lk_RX9_343 w_1496 w_56 rfl t_a0 ⟨(Nat.le_of_ble_eq_true rfl), (Nat.le_of_ble_eq_true rfl)⟩ rfl rfl ⟨(Nat.le_of_ble_eq_true rfl), (Nat.le_of_ble_eq_true rfl)⟩ rfl (Nat.le_of_ble_eq_true rfl) rfl rfl rfl rfl (c_X9_isSpan t_a0 g_q1) ?_
  refine vv_if_eq 23 10 dX9_value_7 rfl (by decide) (fun c2 => ?_) (fun c2 => ?_)
  · rw [if_pos c2] at hf
    refine vv_ldc2 26 (v := 9221120237041090560) dX9_value_23 rfl w_1517 ?_
    obtain rfl := Option.some.inj hf
    exact vv_lret dX9_value_26 rfl
  · rw [if_neg c2] at hf
    refine vv_iload 12 dX9_value_10 rfl rfl ?_
    refine vv_i2l 13 dX9_value_12 rfl ?_
    refine vv_lconst 14 (v := 0) dX9_value_13 rfl (by decide) ?_
    refine vv_ldc2 17 (v := 4) dX9_value_14 rfl w_1516 ?_
    obtain ⟨q3, g_q3, hf⟩ := bind_s hf
    refine vv_callS 20 (st := []) (As := [.long ((x4).toInt64), .long (0 : Int64), .long (4 : Int64)]) (stk2 := [.int q3]) (cl2 := 0) (sl2 := 0) dX9_value_17 rfl lk_RX9_83 w_1206 ⟨(Nat.le_of_ble_eq_true rfl), (Nat.le_of_ble_eq_true rfl)⟩ rfl rfl ⟨(Nat.le_of_ble_eq_true rfl), (Nat.le_of_ble_eq_true rfl)⟩ rfl (Nat.le_of_ble_eq_true rfl) rfl rfl rfl rfl (c_X9_in g_q3) ?_
    refine vv_if_ne 27 23 dX9_value_20 rfl (by decide) (fun c4 => ?_) (fun c4 => ?_)
    · rw [if_pos c4] at hf
      refine vv_ldc2 26 (v := 9221120237041090560) dX9_value_23 rfl w_1517 ?_
      obtain rfl := Option.some.inj hf
      exact vv_lret dX9_value_26 rfl
    · rw [if_neg c4] at hf
      refine vv_aload_n 28 dX9_value_27 rfl rfl ?_
      refine vv_iload_n 29 dX9_value_28 rfl rfl ?_
      refine vv_iload_n 30 dX9_value_29 rfl rfl ?_
      refine vv_iload_n 31 dX9_value_30 rfl rfl ?_
      obtain ⟨q5, g_q5, hf⟩ := bind_s hf
      refine vv_callV 34 (st := []) (As := [.int x1, .int x2, .int x3]) (stk2 := []) (cl2 := 0) (sl2 := 0) dX9_value_31 rfl lk_RX9_351 w_1504 w_58 rfl t_a0 ⟨(Nat.le_of_ble_eq_true rfl), (Nat.le_of_ble_eq_true rfl)⟩ rfl rfl ⟨(Nat.le_of_ble_eq_true rfl), (Nat.le_of_ble_eq_true rfl)⟩ rfl (Nat.le_of_ble_eq_true rfl) rfl rfl rfl rfl (c_X9_laysSpan t_a0 g_q5) ?_
      refine vv_iconst 35 (v := 0) dX9_value_34 rfl (by decide) ?_
      refine vv_istore 37 (L' := [some (.ref a0), some (.int x1), some (.int x2), some (.int x3), some (.int x4), some (.int (0 : Int32)), none, none, none, none, none, none, none, none]) dX9_value_35 rfl (Nat.le_of_ble_eq_true rfl) rfl ?_
      refine vv_lconst 38 (v := 0) dX9_value_37 rfl (by decide) ?_
      refine vv_lstore 40 (L' := [some (.ref a0), some (.int x1), some (.int x2), some (.int x3), some (.int x4), some (.int (0 : Int32)), some (.long (0 : Int64)), none, none, none, none, none, none, none]) dX9_value_38 rfl (Nat.le_of_ble_eq_true rfl) rfl ?_
      refine vv_dconst0 41 dX9_value_40 rfl ?_
      refine vv_dstore 43 (L' := [some (.ref a0), some (.int x1), some (.int x2), some (.int x3), some (.int x4), some (.int (0 : Int32)), some (.long (0 : Int64)), none, some (.double FP.dconst0), none, none, none, none, none]) dX9_value_41 rfl (Nat.le_of_ble_eq_true rfl) rfl ?_
      refine vv_aload_n 44 dX9_value_43 rfl rfl ?_
      refine gf_RX9_337 47 dX9_value_44 rfl t_a0 ?_
      obtain ⟨z6, e_z6, hf⟩ := bd_s hf
      refine vv_istoreE (q := 49) (v := z6) (L' := [some (.ref a0), some (.int x1), some (.int x2), some (.int x3), some (.int x4), some (.int (0 : Int32)), some (.long (0 : Int64)), none, some (.double FP.dconst0), none, some (.int z6), none, none, none]) e_z6 dX9_value_47 rfl (Nat.le_of_ble_eq_true rfl) rfl ?_
      exact VV.lle (v_X9_value_49 t_a0 FU _ _ _ _ _ _ (alike_refl FP.dconst0) hf) (lle_s (lle_n (lle_n (lle_n (lle_s (lle_s (lle_s (lle_s (lle_s (lle_s (lle_s (lle_s (lle_s (lle_s lle_nil))))))))))))))

theorem c_X9_value {w : Wo} {K : Kn} {a0 : Nat} {x1 : Int32} {x2 : Int32} {x3 : Int32} {x4 : Int32} {q : (Int64 × Mem)} {m : Mem} (t_a0 : K a0 = some (.inl 8)) (hf : F_X9_value K m a0 x1 x2 x3 x4 = some q) : MM w K K yX9_value cX9_value 14 (some .long) rm_X9_value [.ref a0, .int x1, .int x2, .int x3, .int x4] m (some (.long q.1)) q.2 0 0 :=
  mm_of (ini := false) (n := 9) (plainFor_of_name (by decide)) rfl (fun h => by first | rfl | cases h) (Nat.le_of_ble_eq_true rfl) rfl (v_X9_value_0 t_a0 hf)

set_option maxHeartbeats 4000000 in
theorem v_X9_above_83 {w : Wo} {K : Kn} {a0 : Nat} {x1 : Int32} {x2 : Int32} {x3 : Int32} {x4 : Int64} {q : (Int32 × Mem)} (t_a0 : K a0 = some (.inl 8)) (k39 : Mem → Int32 → Int32 → Option (Int32 × Mem)) (hk39 : ∀ (m : Mem) (x6 : Int32) (x7 : Int32), k39 m x6 x7 = some q → VV w RX9 cX9_above 8 (some .int) rm_X9_above false (QM w K (some (.int q.1)) q.2 0 0) K 39 [some (.ref a0), none, none, none, some (.long x4), none, some (.int x6), some (.int x7)] [] 0 0 m) {m : Mem} {x7 : Int32} {s0 : Int32} {s1 : Int32} (hf : f_X9_above_83 K a0 x1 x2 x3 x4 k39 m x7 s0 s1 = some q) : VV w RX9 cX9_above 8 (some .int) rm_X9_above false (QM w K (some (.int q.1)) q.2 0 0) K 83 [some (.ref a0), none, none, none, some (.long x4), none, none, some (.int x7)] [.int s1, .int s0] 0 0 m := by
  unfold f_X9_above_83 at hf
  refine vv_iadd 84 dX9_above_83 rfl ?_
  obtain ⟨z1, e_z1, hf⟩ := bd_s hf
  refine vv_istoreE (q := 86) (v := z1) (L' := [some (.ref a0), none, none, none, some (.long x4), none, some (.int z1), some (.int x7)]) e_z1 dX9_above_84 rfl (Nat.le_of_ble_eq_true rfl) rfl ?_
  obtain ⟨z2, e_z2, hf⟩ := bd_s hf
  refine vv_iincE (q := 89) (v := z2) (c := 1) (L' := [some (.ref a0), none, none, none, some (.long x4), none, some (.int z1), some (.int z2)]) e_z2 dX9_above_86 rfl rfl (by decide) (Nat.le_of_ble_eq_true rfl) rfl ?_
  refine vv_goto 39 dX9_above_89 (by decide) ?_
  exact hk39 _ _ _ hf

set_option maxHeartbeats 4000000 in
theorem v_X9_above_82 {w : Wo} {K : Kn} {a0 : Nat} {x1 : Int32} {x2 : Int32} {x3 : Int32} {x4 : Int64} {q : (Int32 × Mem)} (t_a0 : K a0 = some (.inl 8)) (k39 : Mem → Int32 → Int32 → Option (Int32 × Mem)) (hk39 : ∀ (m : Mem) (x6 : Int32) (x7 : Int32), k39 m x6 x7 = some q → VV w RX9 cX9_above 8 (some .int) rm_X9_above false (QM w K (some (.int q.1)) q.2 0 0) K 39 [some (.ref a0), none, none, none, some (.long x4), none, some (.int x6), some (.int x7)] [] 0 0 m) {m : Mem} {x7 : Int32} {s0 : Int32} (hf : f_X9_above_82 K a0 x1 x2 x3 x4 k39 m x7 s0 = some q) : VV w RX9 cX9_above 8 (some .int) rm_X9_above false (QM w K (some (.int q.1)) q.2 0 0) K 82 [some (.ref a0), none, none, none, some (.long x4), none, none, some (.int x7)] [.int s0] 0 0 m := by
  unfold f_X9_above_82 at hf
  refine vv_iconst 83 (v := 0) dX9_above_82 rfl (by decide) ?_
  exact v_X9_above_83 t_a0 k39 hk39 hf

set_option maxHeartbeats 4000000 in
theorem v_X9_above_39B {w : Wo} {K : Kn} {a0 : Nat} {x1 : Int32} {x2 : Int32} {x3 : Int32} {x4 : Int64} {q : (Int32 × Mem)} (t_a0 : K a0 = some (.inl 8)) (k39 : Mem → Int32 → Int32 → Option (Int32 × Mem)) (hk39 : ∀ (m : Mem) (x6 : Int32) (x7 : Int32), k39 m x6 x7 = some q → VV w RX9 cX9_above 8 (some .int) rm_X9_above false (QM w K (some (.int q.1)) q.2 0 0) K 39 [some (.ref a0), none, none, none, some (.long x4), none, some (.int x6), some (.int x7)] [] 0 0 m) {m : Mem} {x6 : Int32} {x7 : Int32} (hf : f_X9_above_39B K a0 x1 x2 x3 x4 k39 m x6 x7 = some q) : VV w RX9 cX9_above 8 (some .int) rm_X9_above false (QM w K (some (.int q.1)) q.2 0 0) K 39 [some (.ref a0), none, none, none, some (.long x4), none, some (.int x6), some (.int x7)] [] 0 0 m := by
  unfold f_X9_above_39B at hf
  refine vv_iload 41 dX9_above_39 rfl rfl ?_
  refine vv_aload_n 42 dX9_above_41 rfl rfl ?_
  refine gf_RX9_340 45 dX9_above_42 rfl t_a0 ?_
  refine vv_icmp_ge 92 48 dX9_above_45 rfl (by decide) (fun c1 => ?_) (fun c1 => ?_)
  · rw [if_pos c1] at hf
    refine vv_iload 94 dX9_above_92 rfl rfl ?_
    obtain rfl := Option.some.inj hf
    exact vv_iret dX9_above_94 rfl
  · rw [if_neg c1] at hf
    refine vv_iload 50 dX9_above_48 rfl rfl ?_
    refine vv_aload_n 51 dX9_above_50 rfl rfl ?_
    obtain ⟨b2, g_b2, hf⟩ := bind_s hf
    have t_b2 := (ldA_spec g_b2).2
    refine gf_RX9_69 54 dX9_above_51 rfl t_a0 (ldA_spec g_b2).1 ?_
    refine vv_iload 56 dX9_above_54 rfl rfl ?_
    obtain ⟨r3, g_r3, hf⟩ := bind_s hf
    refine vv_lald 57 dX9_above_56 rfl t_b2 g_r3 ?_
    obtain ⟨q4, g_q4, hf⟩ := bind_s hf
    refine vv_callS 60 (st := [.int x6]) (As := [.long r3]) (stk2 := [.int q4, .int x6]) (cl2 := 0) (sl2 := 0) dX9_above_57 rfl lk_RX9_355 w_1507 ⟨(Nat.le_of_ble_eq_true rfl), (Nat.le_of_ble_eq_true rfl)⟩ rfl rfl ⟨(Nat.le_of_ble_eq_true rfl), (Nat.le_of_ble_eq_true rfl)⟩ rfl (Nat.le_of_ble_eq_true rfl) rfl rfl rfl rfl (c_X9_isNumber g_q4) ?_
    refine vv_if_eq 82 63 dX9_above_60 rfl (by decide) (fun c5 => ?_) (fun c5 => ?_)
    · rw [if_pos c5] at hf
      exact VV.lle (v_X9_above_82 t_a0 k39 hk39 hf) (lle_s (lle_s (lle_s (lle_s (lle_s (lle_s (lle_n (lle_s lle_nil))))))))
    · rw [if_neg c5] at hf
      refine vv_lload 65 dX9_above_63 rfl rfl ?_
      refine vv_aload_n 66 dX9_above_65 rfl rfl ?_
      obtain ⟨b6, g_b6, hf⟩ := bind_s hf
      have t_b6 := (ldA_spec g_b6).2
      refine gf_RX9_69 69 dX9_above_66 rfl t_a0 (ldA_spec g_b6).1 ?_
      refine vv_iload 71 dX9_above_69 rfl rfl ?_
      obtain ⟨r7, g_r7, hf⟩ := bind_s hf
      refine vv_lald 72 dX9_above_71 rfl t_b6 g_r7 ?_
      obtain ⟨q8, g_q8, hf⟩ := bind_s hf
      refine vv_callS 75 (st := [.int x6]) (As := [.long x4, .long r7]) (stk2 := [.int q8, .int x6]) (cl2 := 0) (sl2 := 0) dX9_above_72 rfl lk_RX9_375 w_1519 ⟨(Nat.le_of_ble_eq_true rfl), (Nat.le_of_ble_eq_true rfl)⟩ rfl rfl ⟨(Nat.le_of_ble_eq_true rfl), (Nat.le_of_ble_eq_true rfl)⟩ rfl (Nat.le_of_ble_eq_true rfl) rfl rfl rfl rfl (c_X9_isLess g_q8) ?_
      refine vv_if_eq 82 78 dX9_above_75 rfl (by decide) (fun c9 => ?_) (fun c9 => ?_)
      · rw [if_pos c9] at hf
        exact VV.lle (v_X9_above_82 t_a0 k39 hk39 hf) (lle_s (lle_s (lle_s (lle_s (lle_s (lle_s (lle_n (lle_s lle_nil))))))))
      · rw [if_neg c9] at hf
        refine vv_iconst 79 (v := 1) dX9_above_78 rfl (by decide) ?_
        refine vv_goto 83 dX9_above_79 (by decide) ?_
        exact VV.lle (v_X9_above_83 t_a0 k39 hk39 hf) (lle_s (lle_s (lle_s (lle_s (lle_s (lle_s (lle_n (lle_s lle_nil))))))))

theorem v_X9_above_39 {w : Wo} {K : Kn} {a0 : Nat} {x1 : Int32} {x2 : Int32} {x3 : Int32} {x4 : Int64} {q : (Int32 × Mem)} (t_a0 : K a0 = some (.inl 8)) : ∀ (n : Nat) (m : Mem) (x6 : Int32) (x7 : Int32), f_X9_above_39 K a0 x1 x2 x3 x4 n m x6 x7 = some q → VV w RX9 cX9_above 8 (some .int) rm_X9_above false (QM w K (some (.int q.1)) q.2 0 0) K 39 [some (.ref a0), none, none, none, some (.long x4), none, some (.int x6), some (.int x7)] [] 0 0 m := by
  intro n
  induction n with
  | zero => intro m x6 x7 hf; cases hf
  | succ n ih => intro m x6 x7 hf; exact v_X9_above_39B (a0 := a0) (x1 := x1) (x2 := x2) (x3 := x3) (x4 := x4) t_a0 (f_X9_above_39 K a0 x1 x2 x3 x4 n) ih hf

set_option maxHeartbeats 4000000 in
theorem v_X9_above_0 {w : Wo} {K : Kn} {a0 : Nat} {x1 : Int32} {x2 : Int32} {x3 : Int32} {x4 : Int64} {q : (Int32 × Mem)} (t_a0 : K a0 = some (.inl 8)) {m : Mem} (hf : f_X9_above K a0 x1 x2 x3 x4 m = some q) : VV w RX9 cX9_above 8 (some .int) rm_X9_above false (QM w K (some (.int q.1)) q.2 0 0) K 0 [some (.ref a0), some (.int x1), some (.int x2), some (.int x3), some (.long x4), none, none, none] [] 0 0 m := by
  unfold f_X9_above at hf
  refine vv_aload_n 1 dX9_above_0 rfl rfl ?_
  refine vv_iload_n 2 dX9_above_1 rfl rfl ?_
  refine vv_iload_n 3 dX9_above_2 rfl rfl ?_
  refine vv_iload_n 4 dX9_above_3 rfl rfl ?_
  obtain ⟨q1, g_q1, hf⟩ := bind_s hf
  refine vv_callV 7 (st := []) (As := [.int x1, .int x2, .int x3]) (stk2 := [.int q1]) (cl2 := 0) (sl2 := 0) dX9_above_4 rfl lk_RX9_343 w_1496 w_56 rfl t_a0 ⟨(Nat.le_of_ble_eq_true rfl), (Nat.le_of_ble_eq_true rfl)⟩ rfl rfl ⟨(Nat.le_of_ble_eq_true rfl), (Nat.le_of_ble_eq_true rfl)⟩ rfl (Nat.le_of_ble_eq_true rfl) rfl rfl rfl rfl (c_X9_isSpan t_a0 g_q1) ?_
  refine vv_if_ne 13 10 dX9_above_7 rfl (by decide) (fun c2 => ?_) (fun c2 => ?_)
  · rw [if_pos c2] at hf
    refine vv_bipush 12 (v := (-2)) dX9_above_10 rfl (by decide) ?_
    obtain rfl := Option.some.inj hf
    exact vv_iret dX9_above_12 rfl
  · rw [if_neg c2] at hf
    refine vv_lload 15 dX9_above_13 rfl rfl ?_
    obtain ⟨q3, g_q3, hf⟩ := bind_s hf
    refine vv_callS 18 (st := []) (As := [.long x4]) (stk2 := [.int q3]) (cl2 := 0) (sl2 := 0) dX9_above_15 rfl lk_RX9_355 w_1507 ⟨(Nat.le_of_ble_eq_true rfl), (Nat.le_of_ble_eq_true rfl)⟩ rfl rfl ⟨(Nat.le_of_ble_eq_true rfl), (Nat.le_of_ble_eq_true rfl)⟩ rfl (Nat.le_of_ble_eq_true rfl) rfl rfl rfl rfl (c_X9_isNumber g_q3) ?_
    refine vv_if_ne 23 21 dX9_above_18 rfl (by decide) (fun c4 => ?_) (fun c4 => ?_)
    · rw [if_pos c4] at hf
      refine vv_iconst 22 (v := (-1)) dX9_above_21 rfl (by decide) ?_
      obtain rfl := Option.some.inj hf
      exact vv_iret dX9_above_22 rfl
    · rw [if_neg c4] at hf
      refine vv_aload_n 24 dX9_above_23 rfl rfl ?_
      refine vv_iload_n 25 dX9_above_24 rfl rfl ?_
      refine vv_iload_n 26 dX9_above_25 rfl rfl ?_
      refine vv_iload_n 27 dX9_above_26 rfl rfl ?_
      obtain ⟨q5, g_q5, hf⟩ := bind_s hf
      refine vv_callV 30 (st := []) (As := [.int x1, .int x2, .int x3]) (stk2 := []) (cl2 := 0) (sl2 := 0) dX9_above_27 rfl lk_RX9_351 w_1504 w_58 rfl t_a0 ⟨(Nat.le_of_ble_eq_true rfl), (Nat.le_of_ble_eq_true rfl)⟩ rfl rfl ⟨(Nat.le_of_ble_eq_true rfl), (Nat.le_of_ble_eq_true rfl)⟩ rfl (Nat.le_of_ble_eq_true rfl) rfl rfl rfl rfl (c_X9_laysSpan t_a0 g_q5) ?_
      refine vv_iconst 31 (v := 0) dX9_above_30 rfl (by decide) ?_
      refine vv_istore 33 (L' := [some (.ref a0), some (.int x1), some (.int x2), some (.int x3), some (.long x4), none, some (.int (0 : Int32)), none]) dX9_above_31 rfl (Nat.le_of_ble_eq_true rfl) rfl ?_
      refine vv_aload_n 34 dX9_above_33 rfl rfl ?_
      refine gf_RX9_337 37 dX9_above_34 rfl t_a0 ?_
      obtain ⟨z6, e_z6, hf⟩ := bd_s hf
      refine vv_istoreE (q := 39) (v := z6) (L' := [some (.ref a0), some (.int x1), some (.int x2), some (.int x3), some (.long x4), none, some (.int (0 : Int32)), some (.int z6)]) e_z6 dX9_above_37 rfl (Nat.le_of_ble_eq_true rfl) rfl ?_
      exact VV.lle (v_X9_above_39 t_a0 FU _ _ _ hf) (lle_s (lle_n (lle_n (lle_n (lle_s (lle_s (lle_s (lle_s lle_nil))))))))

theorem c_X9_above {w : Wo} {K : Kn} {a0 : Nat} {x1 : Int32} {x2 : Int32} {x3 : Int32} {x4 : Int64} {q : (Int32 × Mem)} {m : Mem} (t_a0 : K a0 = some (.inl 8)) (hf : F_X9_above K m a0 x1 x2 x3 x4 = some q) : MM w K K yX9_above cX9_above 8 (some .int) rm_X9_above [.ref a0, .int x1, .int x2, .int x3, .long x4] m (some (.int q.1)) q.2 0 0 :=
  mm_of (ini := false) (n := 2) (plainFor_of_name (by decide)) rfl (fun h => by first | rfl | cases h) (Nat.le_of_ble_eq_true rfl) rfl (v_X9_above_0 t_a0 hf)

set_option maxHeartbeats 4000000 in
theorem v_X9_counted_81 {w : Wo} {K : Kn} {a0 : Nat} {x1 : Int32} {x2 : Int32} {q : (Int32 × Mem)} (t_a0 : K a0 = some (.inl 8)) (k5 : Mem → Int32 → Int32 → Option (Int32 × Mem)) (hk5 : ∀ (m : Mem) (x3 : Int32) (x4 : Int32), k5 m x3 x4 = some q → VV w RX9 cX9_counted 6 (some .int) rm_X9_counted false (QM w K (some (.int q.1)) q.2 0 0) K 5 [some (.ref a0), some (.int x1), some (.int x2), some (.int x3), some (.int x4), none] [] 0 0 m) {m : Mem} {x3 : Int32} {x4 : Int32} (hf : f_X9_counted_81 K a0 x1 x2 k5 m x3 x4 = some q) : VV w RX9 cX9_counted 6 (some .int) rm_X9_counted false (QM w K (some (.int q.1)) q.2 0 0) K 81 [some (.ref a0), some (.int x1), some (.int x2), some (.int x3), some (.int x4), none] [] 0 0 m := by
  unfold f_X9_counted_81 at hf
  obtain ⟨z1, e_z1, hf⟩ := bd_s hf
  refine vv_iincE (q := 84) (v := z1) (c := 1) (L' := [some (.ref a0), some (.int x1), some (.int x2), some (.int x3), some (.int z1), none]) e_z1 dX9_counted_81 rfl rfl (by decide) (Nat.le_of_ble_eq_true rfl) rfl ?_
  refine vv_goto 5 dX9_counted_84 (by decide) ?_
  exact hk5 _ _ _ hf

set_option maxHeartbeats 4000000 in
theorem v_X9_counted_73 {w : Wo} {K : Kn} {a0 : Nat} {x1 : Int32} {x2 : Int32} {q : (Int32 × Mem)} (t_a0 : K a0 = some (.inl 8)) (k36 : Mem → Int32 → Int32 → Int32 → Option (Int32 × Mem)) (hk36 : ∀ (m : Mem) (x3 : Int32) (x4 : Int32) (x5 : Int32), k36 m x3 x4 x5 = some q → VV w RX9 cX9_counted 6 (some .int) rm_X9_counted false (QM w K (some (.int q.1)) q.2 0 0) K 36 [some (.ref a0), some (.int x1), some (.int x2), some (.int x3), some (.int x4), some (.int x5)] [] 0 0 m) {m : Mem} {x4 : Int32} {x5 : Int32} {s0 : Int32} {s1 : Int32} (hf : f_X9_counted_73 K a0 x1 x2 k36 m x4 x5 s0 s1 = some q) : VV w RX9 cX9_counted 6 (some .int) rm_X9_counted false (QM w K (some (.int q.1)) q.2 0 0) K 73 [some (.ref a0), some (.int x1), some (.int x2), none, some (.int x4), some (.int x5)] [.int s1, .int s0] 0 0 m := by
  unfold f_X9_counted_73 at hf
  refine vv_iadd 74 dX9_counted_73 rfl ?_
  obtain ⟨z1, e_z1, hf⟩ := bd_s hf
  refine vv_istore_nE (q := 75) (v := z1) (L' := [some (.ref a0), some (.int x1), some (.int x2), some (.int z1), some (.int x4), some (.int x5)]) e_z1 dX9_counted_74 rfl (Nat.le_of_ble_eq_true rfl) rfl ?_
  obtain ⟨z2, e_z2, hf⟩ := bd_s hf
  refine vv_iincE (q := 78) (v := z2) (c := 1) (L' := [some (.ref a0), some (.int x1), some (.int x2), some (.int z1), some (.int x4), some (.int z2)]) e_z2 dX9_counted_75 rfl rfl (by decide) (Nat.le_of_ble_eq_true rfl) rfl ?_
  refine vv_goto 36 dX9_counted_78 (by decide) ?_
  exact hk36 _ _ _ _ hf

set_option maxHeartbeats 4000000 in
theorem v_X9_counted_68 {w : Wo} {K : Kn} {a0 : Nat} {x1 : Int32} {x2 : Int32} {q : (Int32 × Mem)} (t_a0 : K a0 = some (.inl 8)) (k36 : Mem → Int32 → Int32 → Int32 → Option (Int32 × Mem)) (hk36 : ∀ (m : Mem) (x3 : Int32) (x4 : Int32) (x5 : Int32), k36 m x3 x4 x5 = some q → VV w RX9 cX9_counted 6 (some .int) rm_X9_counted false (QM w K (some (.int q.1)) q.2 0 0) K 36 [some (.ref a0), some (.int x1), some (.int x2), some (.int x3), some (.int x4), some (.int x5)] [] 0 0 m) {m : Mem} {x4 : Int32} {x5 : Int32} {s0 : Int32} (hf : f_X9_counted_68 K a0 x1 x2 k36 m x4 x5 s0 = some q) : VV w RX9 cX9_counted 6 (some .int) rm_X9_counted false (QM w K (some (.int q.1)) q.2 0 0) K 68 [some (.ref a0), some (.int x1), some (.int x2), none, some (.int x4), some (.int x5)] [.int s0] 0 0 m := by
  unfold f_X9_counted_68 at hf
  refine vv_iconst 69 (v := 1) dX9_counted_68 rfl (by decide) ?_
  refine vv_goto 73 dX9_counted_69 (by decide) ?_
  exact v_X9_counted_73 t_a0 k36 hk36 hf

set_option maxHeartbeats 4000000 in
theorem v_X9_counted_36B {w : Wo} {K : Kn} {a0 : Nat} {x1 : Int32} {x2 : Int32} {q : (Int32 × Mem)} (t_a0 : K a0 = some (.inl 8)) (k5 : Mem → Int32 → Int32 → Option (Int32 × Mem)) (hk5 : ∀ (m : Mem) (x3 : Int32) (x4 : Int32), k5 m x3 x4 = some q → VV w RX9 cX9_counted 6 (some .int) rm_X9_counted false (QM w K (some (.int q.1)) q.2 0 0) K 5 [some (.ref a0), some (.int x1), some (.int x2), some (.int x3), some (.int x4), none] [] 0 0 m) (k36 : Mem → Int32 → Int32 → Int32 → Option (Int32 × Mem)) (hk36 : ∀ (m : Mem) (x3 : Int32) (x4 : Int32) (x5 : Int32), k36 m x3 x4 x5 = some q → VV w RX9 cX9_counted 6 (some .int) rm_X9_counted false (QM w K (some (.int q.1)) q.2 0 0) K 36 [some (.ref a0), some (.int x1), some (.int x2), some (.int x3), some (.int x4), some (.int x5)] [] 0 0 m) {m : Mem} {x3 : Int32} {x4 : Int32} {x5 : Int32} (hf : f_X9_counted_36B K a0 x1 x2 k5 k36 m x3 x4 x5 = some q) : VV w RX9 cX9_counted 6 (some .int) rm_X9_counted false (QM w K (some (.int q.1)) q.2 0 0) K 36 [some (.ref a0), some (.int x1), some (.int x2), some (.int x3), some (.int x4), some (.int x5)] [] 0 0 m := by
  unfold f_X9_counted_36B at hf
  refine vv_iload 38 dX9_counted_36 rfl rfl ?_
  refine vv_aload_n 39 dX9_counted_38 rfl rfl ?_
  refine gf_RX9_223 42 dX9_counted_39 rfl t_a0 ?_
  refine vv_icmp_ge 81 45 dX9_counted_42 rfl (by decide) (fun c1 => ?_) (fun c1 => ?_)
  · rw [if_pos c1] at hf
    exact VV.lle (v_X9_counted_81 t_a0 k5 hk5 hf) (lle_s (lle_s (lle_s (lle_s (lle_s (lle_n lle_nil))))))
  · rw [if_neg c1] at hf
    refine vv_iload_n 46 dX9_counted_45 rfl rfl ?_
    refine vv_aload_n 47 dX9_counted_46 rfl rfl ?_
    obtain ⟨b2, g_b2, hf⟩ := bind_s hf
    have t_b2 := (ldA_spec g_b2).2
    refine gf_RX9_60 50 dX9_counted_47 rfl t_a0 (ldA_spec g_b2).1 ?_
    refine vv_iload 52 dX9_counted_50 rfl rfl ?_
    obtain ⟨r3, g_r3, hf⟩ := bind_s hf
    refine vv_iald 53 dX9_counted_52 rfl t_b2 g_r3 ?_
    refine vv_iload_n 54 dX9_counted_53 rfl rfl ?_
    refine vv_icmp_eq 68 57 dX9_counted_54 rfl (by decide) (fun c4 => ?_) (fun c4 => ?_)
    · rw [if_pos c4] at hf
      exact VV.lle (v_X9_counted_68 t_a0 k36 hk36 hf) (lle_s (lle_s (lle_s (lle_n (lle_s (lle_s lle_nil))))))
    · rw [if_neg c4] at hf
      refine vv_aload_n 58 dX9_counted_57 rfl rfl ?_
      obtain ⟨b5, g_b5, hf⟩ := bind_s hf
      have t_b5 := (ldA_spec g_b5).2
      refine gf_RX9_63 61 dX9_counted_58 rfl t_a0 (ldA_spec g_b5).1 ?_
      refine vv_iload 63 dX9_counted_61 rfl rfl ?_
      obtain ⟨r6, g_r6, hf⟩ := bind_s hf
      refine vv_iald 64 dX9_counted_63 rfl t_b5 g_r6 ?_
      refine vv_iload_n 65 dX9_counted_64 rfl rfl ?_
      refine vv_icmp_ne 72 68 dX9_counted_65 rfl (by decide) (fun c7 => ?_) (fun c7 => ?_)
      · rw [if_pos c7] at hf
        exact VV.lle (v_X9_counted_68 t_a0 k36 hk36 hf) (lle_s (lle_s (lle_s (lle_n (lle_s (lle_s lle_nil))))))
      · rw [if_neg c7] at hf
        refine vv_iconst 73 (v := 0) dX9_counted_72 rfl (by decide) ?_
        exact VV.lle (v_X9_counted_73 t_a0 k36 hk36 hf) (lle_s (lle_s (lle_s (lle_n (lle_s (lle_s lle_nil))))))

theorem v_X9_counted_36 {w : Wo} {K : Kn} {a0 : Nat} {x1 : Int32} {x2 : Int32} {q : (Int32 × Mem)} (t_a0 : K a0 = some (.inl 8)) (k5 : Mem → Int32 → Int32 → Option (Int32 × Mem)) (hk5 : ∀ (m : Mem) (x3 : Int32) (x4 : Int32), k5 m x3 x4 = some q → VV w RX9 cX9_counted 6 (some .int) rm_X9_counted false (QM w K (some (.int q.1)) q.2 0 0) K 5 [some (.ref a0), some (.int x1), some (.int x2), some (.int x3), some (.int x4), none] [] 0 0 m) : ∀ (n : Nat) (m : Mem) (x3 : Int32) (x4 : Int32) (x5 : Int32), f_X9_counted_36 K a0 x1 x2 k5 n m x3 x4 x5 = some q → VV w RX9 cX9_counted 6 (some .int) rm_X9_counted false (QM w K (some (.int q.1)) q.2 0 0) K 36 [some (.ref a0), some (.int x1), some (.int x2), some (.int x3), some (.int x4), some (.int x5)] [] 0 0 m := by
  intro n
  induction n with
  | zero => intro m x3 x4 x5 hf; cases hf
  | succ n ih => intro m x3 x4 x5 hf; exact v_X9_counted_36B (a0 := a0) (x1 := x1) (x2 := x2) t_a0 k5 hk5 (f_X9_counted_36 K a0 x1 x2 k5 n) ih hf

set_option maxHeartbeats 4000000 in
theorem v_X9_counted_5B {w : Wo} {K : Kn} {a0 : Nat} {x1 : Int32} {x2 : Int32} {q : (Int32 × Mem)} (t_a0 : K a0 = some (.inl 8)) (k5 : Mem → Int32 → Int32 → Option (Int32 × Mem)) (hk5 : ∀ (m : Mem) (x3 : Int32) (x4 : Int32), k5 m x3 x4 = some q → VV w RX9 cX9_counted 6 (some .int) rm_X9_counted false (QM w K (some (.int q.1)) q.2 0 0) K 5 [some (.ref a0), some (.int x1), some (.int x2), some (.int x3), some (.int x4), none] [] 0 0 m) {m : Mem} {x3 : Int32} {x4 : Int32} (hf : f_X9_counted_5B K a0 x1 x2 k5 m x3 x4 = some q) : VV w RX9 cX9_counted 6 (some .int) rm_X9_counted false (QM w K (some (.int q.1)) q.2 0 0) K 5 [some (.ref a0), some (.int x1), some (.int x2), some (.int x3), some (.int x4), none] [] 0 0 m := by
  unfold f_X9_counted_5B at hf
  refine vv_iload 7 dX9_counted_5 rfl rfl ?_
  refine vv_aload_n 8 dX9_counted_7 rfl rfl ?_
  obtain ⟨b1, g_b1, hf⟩ := bind_s hf
  have t_b1 := (ldA_spec g_b1).2
  refine gf_RX9_16 11 dX9_counted_8 rfl t_a0 (ldA_spec g_b1).1 ?_
  refine vv_iload_n 12 dX9_counted_11 rfl rfl ?_
  obtain ⟨r2, g_r2, hf⟩ := bind_s hf
  refine vv_iald 13 dX9_counted_12 rfl t_b1 g_r2 ?_
  refine vv_icmp_ge 87 16 dX9_counted_13 rfl (by decide) (fun c3 => ?_) (fun c3 => ?_)
  · rw [if_pos c3] at hf
    refine vv_iload_n 88 dX9_counted_87 rfl rfl ?_
    obtain rfl := Option.some.inj hf
    exact vv_iret dX9_counted_88 rfl
  · rw [if_neg c3] at hf
    refine vv_aload_n 17 dX9_counted_16 rfl rfl ?_
    refine vv_bipush 19 (v := 16) dX9_counted_17 rfl (by decide) ?_
    refine vv_iload_n 20 dX9_counted_19 rfl rfl ?_
    refine vv_imul 21 dX9_counted_20 rfl ?_
    refine vv_iload 23 dX9_counted_21 rfl rfl ?_
    refine vv_iadd 24 dX9_counted_23 rfl ?_
    obtain ⟨q4, g_q4, hf⟩ := bind_s hf
    refine vv_callV 27 (st := []) (As := [.int (((16 : Int32) * x1) + x4)]) (stk2 := [.int q4.1]) (cl2 := 0) (sl2 := 0) dX9_counted_24 rfl lk_RX9_245 w_1365 w_44 rfl t_a0 ⟨(Nat.le_of_ble_eq_true rfl), (Nat.le_of_ble_eq_true rfl)⟩ rfl rfl ⟨(Nat.le_of_ble_eq_true rfl), (Nat.le_of_ble_eq_true rfl)⟩ rfl (Nat.le_of_ble_eq_true rfl) rfl rfl rfl rfl (c_X9_isBroken t_a0 g_q4) ?_
    refine vv_if_eq 33 30 dX9_counted_27 rfl (by decide) (fun c5 => ?_) (fun c5 => ?_)
    · rw [if_pos c5] at hf
      refine vv_iconst 34 (v := 1) dX9_counted_33 rfl (by decide) ?_
      refine vv_istore 36 (L' := [some (.ref a0), some (.int x1), some (.int x2), some (.int x3), some (.int x4), some (.int (1 : Int32))]) dX9_counted_34 rfl (Nat.le_of_ble_eq_true rfl) rfl ?_
      exact v_X9_counted_36 t_a0 k5 hk5 FU _ _ _ _ hf
    · rw [if_neg c5] at hf
      refine vv_goto 81 dX9_counted_30 (by decide) ?_
      exact v_X9_counted_81 t_a0 k5 hk5 hf

theorem v_X9_counted_5 {w : Wo} {K : Kn} {a0 : Nat} {x1 : Int32} {x2 : Int32} {q : (Int32 × Mem)} (t_a0 : K a0 = some (.inl 8)) : ∀ (n : Nat) (m : Mem) (x3 : Int32) (x4 : Int32), f_X9_counted_5 K a0 x1 x2 n m x3 x4 = some q → VV w RX9 cX9_counted 6 (some .int) rm_X9_counted false (QM w K (some (.int q.1)) q.2 0 0) K 5 [some (.ref a0), some (.int x1), some (.int x2), some (.int x3), some (.int x4), none] [] 0 0 m := by
  intro n
  induction n with
  | zero => intro m x3 x4 hf; cases hf
  | succ n ih => intro m x3 x4 hf; exact v_X9_counted_5B (a0 := a0) (x1 := x1) (x2 := x2) t_a0 (f_X9_counted_5 K a0 x1 x2 n) ih hf

set_option maxHeartbeats 4000000 in
theorem v_X9_counted_0 {w : Wo} {K : Kn} {a0 : Nat} {x1 : Int32} {x2 : Int32} {q : (Int32 × Mem)} (t_a0 : K a0 = some (.inl 8)) {m : Mem} (hf : f_X9_counted K a0 x1 x2 m = some q) : VV w RX9 cX9_counted 6 (some .int) rm_X9_counted false (QM w K (some (.int q.1)) q.2 0 0) K 0 [some (.ref a0), some (.int x1), some (.int x2), none, none, none] [] 0 0 m := by
  unfold f_X9_counted at hf
  refine vv_iconst 1 (v := 0) dX9_counted_0 rfl (by decide) ?_
  refine vv_istore_n 2 (L' := [some (.ref a0), some (.int x1), some (.int x2), some (.int (0 : Int32)), none, none]) dX9_counted_1 rfl (Nat.le_of_ble_eq_true rfl) rfl ?_
  refine vv_iconst 3 (v := 0) dX9_counted_2 rfl (by decide) ?_
  refine vv_istore 5 (L' := [some (.ref a0), some (.int x1), some (.int x2), some (.int (0 : Int32)), some (.int (0 : Int32)), none]) dX9_counted_3 rfl (Nat.le_of_ble_eq_true rfl) rfl ?_
  exact v_X9_counted_5 t_a0 FU _ _ _ hf

theorem c_X9_counted {w : Wo} {K : Kn} {a0 : Nat} {x1 : Int32} {x2 : Int32} {q : (Int32 × Mem)} {m : Mem} (t_a0 : K a0 = some (.inl 8)) (hf : F_X9_counted K m a0 x1 x2 = some q) : MM w K K yX9_counted cX9_counted 6 (some .int) rm_X9_counted [.ref a0, .int x1, .int x2] m (some (.int q.1)) q.2 0 0 :=
  mm_of (ini := false) (n := 3) (plainFor_of_name (by decide)) rfl (fun h => by first | rfl | cases h) (Nat.le_of_ble_eq_true rfl) rfl (v_X9_counted_0 t_a0 hf)

set_option maxHeartbeats 4000000 in
theorem v_X9_ways_29 {w : Wo} {K : Kn} {a0 : Nat} {x1 : Int32} {x2 : Int32} {q : (Int32 × Mem)} (t_a0 : K a0 = some (.inl 8)) {m : Mem} (hf : f_X9_ways_29 K a0 x1 x2 m = some q) : VV w RX9 cX9_ways 3 (some .int) rm_X9_ways false (QM w K (some (.int q.1)) q.2 0 0) K 29 [none, none, none] [] 0 0 m := by
  unfold f_X9_ways_29 at hf
  refine vv_bipush 31 (v := (-2)) dX9_ways_29 rfl (by decide) ?_
  obtain rfl := Option.some.inj hf
  exact vv_iret dX9_ways_31 rfl

set_option maxHeartbeats 4000000 in
theorem v_X9_ways_0 {w : Wo} {K : Kn} {a0 : Nat} {x1 : Int32} {x2 : Int32} {q : (Int32 × Mem)} (t_a0 : K a0 = some (.inl 8)) {m : Mem} (hf : f_X9_ways K a0 x1 x2 m = some q) : VV w RX9 cX9_ways 3 (some .int) rm_X9_ways false (QM w K (some (.int q.1)) q.2 0 0) K 0 [some (.ref a0), some (.int x1), some (.int x2)] [] 0 0 m := by
  unfold f_X9_ways at hf
  refine vv_aload_n 1 dX9_ways_0 rfl rfl ?_
  refine vv_iload_n 2 dX9_ways_1 rfl rfl ?_
  obtain ⟨q1, g_q1, hf⟩ := bind_s hf
  refine vv_callV 5 (st := []) (As := [.int x1]) (stk2 := [.int q1]) (cl2 := 0) (sl2 := 0) dX9_ways_2 rfl lk_RX9_87 w_1220 w_21 rfl t_a0 ⟨(Nat.le_of_ble_eq_true rfl), (Nat.le_of_ble_eq_true rfl)⟩ rfl rfl ⟨(Nat.le_of_ble_eq_true rfl), (Nat.le_of_ble_eq_true rfl)⟩ rfl (Nat.le_of_ble_eq_true rfl) rfl rfl rfl rfl (c_X9_isSeries t_a0 g_q1) ?_
  refine vv_if_eq 29 8 dX9_ways_5 rfl (by decide) (fun c2 => ?_) (fun c2 => ?_)
  · rw [if_pos c2] at hf
    exact VV.lle (v_X9_ways_29 t_a0 hf) (lle_n (lle_n (lle_n lle_nil)))
  · rw [if_neg c2] at hf
    refine vv_iload_n 9 dX9_ways_8 rfl rfl ?_
    refine vv_i2l 10 dX9_ways_9 rfl ?_
    refine vv_lconst 11 (v := 0) dX9_ways_10 rfl (by decide) ?_
    refine vv_ldc2 14 (v := 7) dX9_ways_11 rfl w_1441 ?_
    obtain ⟨q3, g_q3, hf⟩ := bind_s hf
    refine vv_callS 17 (st := []) (As := [.long ((x2).toInt64), .long (0 : Int64), .long (7 : Int64)]) (stk2 := [.int q3]) (cl2 := 0) (sl2 := 0) dX9_ways_14 rfl lk_RX9_83 w_1206 ⟨(Nat.le_of_ble_eq_true rfl), (Nat.le_of_ble_eq_true rfl)⟩ rfl rfl ⟨(Nat.le_of_ble_eq_true rfl), (Nat.le_of_ble_eq_true rfl)⟩ rfl (Nat.le_of_ble_eq_true rfl) rfl rfl rfl rfl (c_X9_in g_q3) ?_
    refine vv_if_eq 29 20 dX9_ways_17 rfl (by decide) (fun c4 => ?_) (fun c4 => ?_)
    · rw [if_pos c4] at hf
      exact VV.lle (v_X9_ways_29 t_a0 hf) (lle_n (lle_n (lle_n lle_nil)))
    · rw [if_neg c4] at hf
      refine vv_aload_n 21 dX9_ways_20 rfl rfl ?_
      refine vv_iload_n 22 dX9_ways_21 rfl rfl ?_
      refine vv_iload_n 23 dX9_ways_22 rfl rfl ?_
      obtain ⟨q5, g_q5, hf⟩ := bind_s hf
      refine vv_callV 26 (st := []) (As := [.int x1, .int x2]) (stk2 := [.int q5.1]) (cl2 := 0) (sl2 := 0) dX9_ways_23 rfl lk_RX9_322 w_1444 w_53 rfl t_a0 ⟨(Nat.le_of_ble_eq_true rfl), (Nat.le_of_ble_eq_true rfl)⟩ rfl rfl ⟨(Nat.le_of_ble_eq_true rfl), (Nat.le_of_ble_eq_true rfl)⟩ rfl (Nat.le_of_ble_eq_true rfl) rfl rfl rfl rfl (c_X9_counted t_a0 g_q5) ?_
      refine vv_goto 31 dX9_ways_26 (by decide) ?_
      obtain rfl := Option.some.inj hf
      exact vv_iret dX9_ways_31 rfl

theorem c_X9_ways {w : Wo} {K : Kn} {a0 : Nat} {x1 : Int32} {x2 : Int32} {q : (Int32 × Mem)} {m : Mem} (t_a0 : K a0 = some (.inl 8)) (hf : F_X9_ways K m a0 x1 x2 = some q) : MM w K K yX9_ways cX9_ways 3 (some .int) rm_X9_ways [.ref a0, .int x1, .int x2] m (some (.int q.1)) q.2 0 0 :=
  mm_of (ini := false) (n := 0) (plainFor_of_name (by decide)) rfl (fun h => by first | rfl | cases h) (Nat.le_of_ble_eq_true rfl) rfl (v_X9_ways_0 t_a0 hf)

set_option maxHeartbeats 4000000 in
theorem v_X9_window_0 {w : Wo} {K : Kn} {a0 : Nat} {x1 : Int32} {x2 : Int32} {q : (Int32 × Mem)} (t_a0 : K a0 = some (.inl 8)) {m : Mem} (hf : f_X9_window K a0 x1 x2 m = some q) : VV w RX9 cX9_window 3 (some .int) rm_X9_window false (QM w K (some (.int q.1)) q.2 0 0) K 0 [some (.ref a0), some (.int x1), some (.int x2)] [] 0 0 m := by
  unfold f_X9_window at hf
  refine vv_aload_n 1 dX9_window_0 rfl rfl ?_
  refine vv_iload_n 2 dX9_window_1 rfl rfl ?_
  obtain ⟨q1, g_q1, hf⟩ := bind_s hf
  refine vv_callV 5 (st := []) (As := [.int x1]) (stk2 := [.int q1]) (cl2 := 0) (sl2 := 0) dX9_window_2 rfl lk_RX9_87 w_1220 w_21 rfl t_a0 ⟨(Nat.le_of_ble_eq_true rfl), (Nat.le_of_ble_eq_true rfl)⟩ rfl rfl ⟨(Nat.le_of_ble_eq_true rfl), (Nat.le_of_ble_eq_true rfl)⟩ rfl (Nat.le_of_ble_eq_true rfl) rfl rfl rfl rfl (c_X9_isSeries t_a0 g_q1) ?_
  refine vv_if_eq 18 8 dX9_window_5 rfl (by decide) (fun c2 => ?_) (fun c2 => ?_)
  · rw [if_pos c2] at hf
    refine vv_bipush 20 (v := (-2)) dX9_window_18 rfl (by decide) ?_
    obtain rfl := Option.some.inj hf
    exact vv_iret dX9_window_20 rfl
  · rw [if_neg c2] at hf
    refine vv_iload_n 9 dX9_window_8 rfl rfl ?_
    refine vv_i2l 10 dX9_window_9 rfl ?_
    refine vv_lconst 11 (v := 0) dX9_window_10 rfl (by decide) ?_
    refine vv_lconst 12 (v := 1) dX9_window_11 rfl (by decide) ?_
    obtain ⟨q3, g_q3, hf⟩ := bind_s hf
    refine vv_callS 15 (st := []) (As := [.long ((x2).toInt64), .long (0 : Int64), .long (1 : Int64)]) (stk2 := [.int q3]) (cl2 := 0) (sl2 := 0) dX9_window_12 rfl lk_RX9_83 w_1206 ⟨(Nat.le_of_ble_eq_true rfl), (Nat.le_of_ble_eq_true rfl)⟩ rfl rfl ⟨(Nat.le_of_ble_eq_true rfl), (Nat.le_of_ble_eq_true rfl)⟩ rfl (Nat.le_of_ble_eq_true rfl) rfl rfl rfl rfl (c_X9_in g_q3) ?_
    refine vv_if_ne 21 18 dX9_window_15 rfl (by decide) (fun c4 => ?_) (fun c4 => ?_)
    · rw [if_pos c4] at hf
      refine vv_bipush 20 (v := (-2)) dX9_window_18 rfl (by decide) ?_
      obtain rfl := Option.some.inj hf
      exact vv_iret dX9_window_20 rfl
    · rw [if_neg c4] at hf
      refine vv_aload_n 22 dX9_window_21 rfl rfl ?_
      refine vv_iconst 23 (v := 0) dX9_window_22 rfl (by decide) ?_
      obtain ⟨m5, e_m5, hf⟩ := bd_s hf
      refine pf_RX9_130 26 dX9_window_23 rfl t_a0 (by decide) e_m5 ?_
      refine vv_aload_n 27 dX9_window_26 rfl rfl ?_
      refine vv_iload_n 28 dX9_window_27 rfl rfl ?_
      obtain ⟨q6, g_q6, hf⟩ := bind_s hf
      refine vv_callV 31 (st := []) (As := [.int x1]) (stk2 := []) (cl2 := 0) (sl2 := 0) dX9_window_28 rfl lk_RX9_285 w_1232 w_23 rfl t_a0 ⟨(Nat.le_of_ble_eq_true rfl), (Nat.le_of_ble_eq_true rfl)⟩ rfl rfl ⟨(Nat.le_of_ble_eq_true rfl), (Nat.le_of_ble_eq_true rfl)⟩ rfl (Nat.le_of_ble_eq_true rfl) rfl rfl rfl rfl (c_X9_opens t_a0 g_q6) ?_
      refine vv_aload_n 32 dX9_window_31 rfl rfl ?_
      refine gf_RX9_130 35 dX9_window_32 rfl t_a0 ?_
      refine vv_if_ne 42 38 dX9_window_35 rfl (by decide) (fun c7 => ?_) (fun c7 => ?_)
      · rw [if_pos c7] at hf
        refine vv_iconst 39 (v := (-1)) dX9_window_38 rfl (by decide) ?_
        refine vv_goto 57 dX9_window_39 (by decide) ?_
        obtain rfl := Option.some.inj hf
        exact vv_iret dX9_window_57 rfl
      · rw [if_neg c7] at hf
        refine vv_iload_n 43 dX9_window_42 rfl rfl ?_
        refine vv_if_ne 53 46 dX9_window_43 rfl (by decide) (fun c8 => ?_) (fun c8 => ?_)
        · rw [if_pos c8] at hf
          refine vv_aload_n 47 dX9_window_46 rfl rfl ?_
          refine gf_RX9_134 50 dX9_window_47 rfl t_a0 ?_
          refine vv_goto 57 dX9_window_50 (by decide) ?_
          obtain rfl := Option.some.inj hf
          exact vv_iret dX9_window_57 rfl
        · rw [if_neg c8] at hf
          refine vv_aload_n 54 dX9_window_53 rfl rfl ?_
          refine gf_RX9_138 57 dX9_window_54 rfl t_a0 ?_
          obtain rfl := Option.some.inj hf
          exact vv_iret dX9_window_57 rfl

theorem c_X9_window {w : Wo} {K : Kn} {a0 : Nat} {x1 : Int32} {x2 : Int32} {q : (Int32 × Mem)} {m : Mem} (t_a0 : K a0 = some (.inl 8)) (hf : F_X9_window K m a0 x1 x2 = some q) : MM w K K yX9_window cX9_window 3 (some .int) rm_X9_window [.ref a0, .int x1, .int x2] m (some (.int q.1)) q.2 0 0 :=
  mm_of (ini := false) (n := 0) (plainFor_of_name (by decide)) rfl (fun h => by first | rfl | cases h) (Nat.le_of_ble_eq_true rfl) rfl (v_X9_window_0 t_a0 hf)

set_option maxHeartbeats 4000000 in
theorem v_X9_gap_96 {w : Wo} {K : Kn} {a0 : Nat} {x1 : Int32} {x2 : Int32} {q : (Int32 × Mem)} (t_a0 : K a0 = some (.inl 8)) (k36 : Mem → Int64 → Int64 → Int32 → Option (Int32 × Mem)) (hk36 : ∀ (m : Mem) (x3 : Int64) (x5 : Int64) (x7 : Int32), k36 m x3 x5 x7 = some q → VV w RX9 cX9_gap 8 (some .int) rm_X9_gap false (QM w K (some (.int q.1)) q.2 0 0) K 36 [some (.ref a0), none, some (.int x2), some (.long x3), none, some (.long x5), none, some (.int x7)] [] 0 0 m) {m : Mem} {x3 : Int64} {x5 : Int64} {x7 : Int32} (hf : f_X9_gap_96 K a0 x1 x2 k36 m x3 x5 x7 = some q) : VV w RX9 cX9_gap 8 (some .int) rm_X9_gap false (QM w K (some (.int q.1)) q.2 0 0) K 96 [some (.ref a0), none, some (.int x2), some (.long x3), none, some (.long x5), none, some (.int x7)] [] 0 0 m := by
  unfold f_X9_gap_96 at hf
  obtain ⟨z1, e_z1, hf⟩ := bd_s hf
  refine vv_iincE (q := 99) (v := z1) (c := 1) (L' := [some (.ref a0), none, some (.int x2), some (.long x3), none, some (.long x5), none, some (.int z1)]) e_z1 dX9_gap_96 rfl rfl (by decide) (Nat.le_of_ble_eq_true rfl) rfl ?_
  refine vv_goto 36 dX9_gap_99 (by decide) ?_
  exact hk36 _ _ _ _ hf

set_option maxHeartbeats 4000000 in
theorem v_X9_gap_124 {w : Wo} {K : Kn} {a0 : Nat} {x1 : Int32} {x2 : Int32} {q : (Int32 × Mem)} (t_a0 : K a0 = some (.inl 8)) {m : Mem} {s0 : Int64} (hf : f_X9_gap_124 K a0 x1 x2 m s0 = some q) : VV w RX9 cX9_gap 8 (some .int) rm_X9_gap false (QM w K (some (.int q.1)) q.2 0 0) K 124 [none, none, none, none, none, none, none, none] [.long s0] 0 0 m := by
  unfold f_X9_gap_124 at hf
  refine vv_l2i 125 dX9_gap_124 rfl ?_
  obtain rfl := Option.some.inj hf
  exact vv_iret dX9_gap_125 rfl

set_option maxHeartbeats 4000000 in
theorem v_X9_gap_36B {w : Wo} {K : Kn} {a0 : Nat} {x1 : Int32} {x2 : Int32} {q : (Int32 × Mem)} (t_a0 : K a0 = some (.inl 8)) (k36 : Mem → Int64 → Int64 → Int32 → Option (Int32 × Mem)) (hk36 : ∀ (m : Mem) (x3 : Int64) (x5 : Int64) (x7 : Int32), k36 m x3 x5 x7 = some q → VV w RX9 cX9_gap 8 (some .int) rm_X9_gap false (QM w K (some (.int q.1)) q.2 0 0) K 36 [some (.ref a0), none, some (.int x2), some (.long x3), none, some (.long x5), none, some (.int x7)] [] 0 0 m) {m : Mem} {x3 : Int64} {x5 : Int64} {x7 : Int32} (hf : f_X9_gap_36B K a0 x1 x2 k36 m x3 x5 x7 = some q) : VV w RX9 cX9_gap 8 (some .int) rm_X9_gap false (QM w K (some (.int q.1)) q.2 0 0) K 36 [some (.ref a0), none, some (.int x2), some (.long x3), none, some (.long x5), none, some (.int x7)] [] 0 0 m := by
  unfold f_X9_gap_36B at hf
  refine vv_iload 38 dX9_gap_36 rfl rfl ?_
  refine vv_aload_n 39 dX9_gap_38 rfl rfl ?_
  refine gf_RX9_248 42 dX9_gap_39 rfl t_a0 ?_
  refine vv_icmp_ge 102 45 dX9_gap_42 rfl (by decide) (fun c1 => ?_) (fun c1 => ?_)
  · rw [if_pos c1] at hf
    refine vv_aload_n 103 dX9_gap_102 rfl rfl ?_
    refine gf_RX9_248 106 dX9_gap_103 rfl t_a0 ?_
    refine vv_iconst 107 (v := 2) dX9_gap_106 rfl (by decide) ?_
    refine vv_icmp_ge 114 110 dX9_gap_107 rfl (by decide) (fun c2 => ?_) (fun c2 => ?_)
    · rw [if_pos c2] at hf
      refine vv_iload_n 115 dX9_gap_114 rfl rfl ?_
      refine vv_if_ne 122 118 dX9_gap_115 rfl (by decide) (fun c3 => ?_) (fun c3 => ?_)
      · rw [if_pos c3] at hf
        refine vv_lload_n 119 dX9_gap_118 rfl rfl ?_
        refine vv_goto 124 dX9_gap_119 (by decide) ?_
        exact VV.lle (v_X9_gap_124 t_a0 hf) (lle_n (lle_s (lle_n (lle_n (lle_s (lle_n (lle_s (lle_n lle_nil))))))))
      · rw [if_neg c3] at hf
        refine vv_lload 124 dX9_gap_122 rfl rfl ?_
        exact VV.lle (v_X9_gap_124 t_a0 hf) (lle_n (lle_s (lle_n (lle_n (lle_s (lle_n (lle_s (lle_n lle_nil))))))))
    · rw [if_neg c2] at hf
      refine vv_iconst 111 (v := (-1)) dX9_gap_110 rfl (by decide) ?_
      refine vv_goto 125 dX9_gap_111 (by decide) ?_
      obtain rfl := Option.some.inj hf
      exact vv_iret dX9_gap_125 rfl
  · rw [if_neg c1] at hf
    refine vv_aload_n 46 dX9_gap_45 rfl rfl ?_
    obtain ⟨b4, g_b4, hf⟩ := bind_s hf
    have t_b4 := (ldA_spec g_b4).2
    refine gf_RX9_66 49 dX9_gap_46 rfl t_a0 (ldA_spec g_b4).1 ?_
    refine vv_iload 51 dX9_gap_49 rfl rfl ?_
    obtain ⟨r5, g_r5, hf⟩ := bind_s hf
    refine vv_lald 52 dX9_gap_51 rfl t_b4 g_r5 ?_
    refine vv_aload_n 53 dX9_gap_52 rfl rfl ?_
    obtain ⟨b6, g_b6, hf⟩ := bind_s hf
    have t_b6 := (ldA_spec g_b6).2
    refine gf_RX9_66 56 dX9_gap_53 rfl t_a0 (ldA_spec g_b6).1 ?_
    refine vv_iload 58 dX9_gap_56 rfl rfl ?_
    refine vv_iconst 59 (v := 1) dX9_gap_58 rfl (by decide) ?_
    refine vv_isub 60 dX9_gap_59 rfl ?_
    obtain ⟨r7, g_r7, hf⟩ := bind_s hf
    refine vv_lald 61 dX9_gap_60 rfl t_b6 g_r7 ?_
    refine vv_lsub 62 dX9_gap_61 rfl ?_
    refine vv_lload_n 63 dX9_gap_62 rfl rfl ?_
    refine vv_lcmp 64 dX9_gap_63 rfl ?_
    refine vv_if_le 96 67 dX9_gap_64 rfl (by decide) (fun c8 => ?_) (fun c8 => ?_)
    · rw [if_pos c8] at hf
      exact v_X9_gap_96 t_a0 k36 hk36 hf
    · rw [if_neg c8] at hf
      refine vv_aload_n 68 dX9_gap_67 rfl rfl ?_
      obtain ⟨b9, g_b9, hf⟩ := bind_s hf
      have t_b9 := (ldA_spec g_b9).2
      refine gf_RX9_66 71 dX9_gap_68 rfl t_a0 (ldA_spec g_b9).1 ?_
      refine vv_iload 73 dX9_gap_71 rfl rfl ?_
      obtain ⟨r10, g_r10, hf⟩ := bind_s hf
      refine vv_lald 74 dX9_gap_73 rfl t_b9 g_r10 ?_
      refine vv_aload_n 75 dX9_gap_74 rfl rfl ?_
      obtain ⟨b11, g_b11, hf⟩ := bind_s hf
      have t_b11 := (ldA_spec g_b11).2
      refine gf_RX9_66 78 dX9_gap_75 rfl t_a0 (ldA_spec g_b11).1 ?_
      refine vv_iload 80 dX9_gap_78 rfl rfl ?_
      refine vv_iconst 81 (v := 1) dX9_gap_80 rfl (by decide) ?_
      refine vv_isub 82 dX9_gap_81 rfl ?_
      obtain ⟨r12, g_r12, hf⟩ := bind_s hf
      refine vv_lald 83 dX9_gap_82 rfl t_b11 g_r12 ?_
      refine vv_lsub 84 dX9_gap_83 rfl ?_
      obtain ⟨z13, e_z13, hf⟩ := bd_s hf
      refine vv_lstore_nE (q := 85) (v := z13) (L' := [some (.ref a0), none, some (.int x2), some (.long z13), none, some (.long x5), none, some (.int x7)]) e_z13 dX9_gap_84 rfl (Nat.le_of_ble_eq_true rfl) rfl ?_
      refine vv_aload_n 86 dX9_gap_85 rfl rfl ?_
      obtain ⟨b14, g_b14, hf⟩ := bind_s hf
      have t_b14 := (ldA_spec g_b14).2
      refine gf_RX9_66 89 dX9_gap_86 rfl t_a0 (ldA_spec g_b14).1 ?_
      refine vv_iload 91 dX9_gap_89 rfl rfl ?_
      refine vv_iconst 92 (v := 1) dX9_gap_91 rfl (by decide) ?_
      refine vv_isub 93 dX9_gap_92 rfl ?_
      obtain ⟨r15, g_r15, hf⟩ := bind_s hf
      refine vv_lald 94 dX9_gap_93 rfl t_b14 g_r15 ?_
      refine vv_lstore 96 (L' := [some (.ref a0), none, some (.int x2), some (.long z13), none, some (.long r15), none, some (.int x7)]) dX9_gap_94 rfl (Nat.le_of_ble_eq_true rfl) rfl ?_
      exact v_X9_gap_96 t_a0 k36 hk36 hf

theorem v_X9_gap_36 {w : Wo} {K : Kn} {a0 : Nat} {x1 : Int32} {x2 : Int32} {q : (Int32 × Mem)} (t_a0 : K a0 = some (.inl 8)) : ∀ (n : Nat) (m : Mem) (x3 : Int64) (x5 : Int64) (x7 : Int32), f_X9_gap_36 K a0 x1 x2 n m x3 x5 x7 = some q → VV w RX9 cX9_gap 8 (some .int) rm_X9_gap false (QM w K (some (.int q.1)) q.2 0 0) K 36 [some (.ref a0), none, some (.int x2), some (.long x3), none, some (.long x5), none, some (.int x7)] [] 0 0 m := by
  intro n
  induction n with
  | zero => intro m x3 x5 x7 hf; cases hf
  | succ n ih => intro m x3 x5 x7 hf; exact v_X9_gap_36B (a0 := a0) (x1 := x1) (x2 := x2) t_a0 (f_X9_gap_36 K a0 x1 x2 n) ih hf

set_option maxHeartbeats 4000000 in
theorem v_X9_gap_0 {w : Wo} {K : Kn} {a0 : Nat} {x1 : Int32} {x2 : Int32} {q : (Int32 × Mem)} (t_a0 : K a0 = some (.inl 8)) {m : Mem} (hf : f_X9_gap K a0 x1 x2 m = some q) : VV w RX9 cX9_gap 8 (some .int) rm_X9_gap false (QM w K (some (.int q.1)) q.2 0 0) K 0 [some (.ref a0), some (.int x1), some (.int x2), none, none, none, none, none] [] 0 0 m := by
  unfold f_X9_gap at hf
  refine vv_aload_n 1 dX9_gap_0 rfl rfl ?_
  refine vv_iload_n 2 dX9_gap_1 rfl rfl ?_
  obtain ⟨q1, g_q1, hf⟩ := bind_s hf
  refine vv_callV 5 (st := []) (As := [.int x1]) (stk2 := [.int q1]) (cl2 := 0) (sl2 := 0) dX9_gap_2 rfl lk_RX9_87 w_1220 w_21 rfl t_a0 ⟨(Nat.le_of_ble_eq_true rfl), (Nat.le_of_ble_eq_true rfl)⟩ rfl rfl ⟨(Nat.le_of_ble_eq_true rfl), (Nat.le_of_ble_eq_true rfl)⟩ rfl (Nat.le_of_ble_eq_true rfl) rfl rfl rfl rfl (c_X9_isSeries t_a0 g_q1) ?_
  refine vv_if_eq 18 8 dX9_gap_5 rfl (by decide) (fun c2 => ?_) (fun c2 => ?_)
  · rw [if_pos c2] at hf
    refine vv_bipush 20 (v := (-2)) dX9_gap_18 rfl (by decide) ?_
    obtain rfl := Option.some.inj hf
    exact vv_iret dX9_gap_20 rfl
  · rw [if_neg c2] at hf
    refine vv_iload_n 9 dX9_gap_8 rfl rfl ?_
    refine vv_i2l 10 dX9_gap_9 rfl ?_
    refine vv_lconst 11 (v := 0) dX9_gap_10 rfl (by decide) ?_
    refine vv_lconst 12 (v := 1) dX9_gap_11 rfl (by decide) ?_
    obtain ⟨q3, g_q3, hf⟩ := bind_s hf
    refine vv_callS 15 (st := []) (As := [.long ((x2).toInt64), .long (0 : Int64), .long (1 : Int64)]) (stk2 := [.int q3]) (cl2 := 0) (sl2 := 0) dX9_gap_12 rfl lk_RX9_83 w_1206 ⟨(Nat.le_of_ble_eq_true rfl), (Nat.le_of_ble_eq_true rfl)⟩ rfl rfl ⟨(Nat.le_of_ble_eq_true rfl), (Nat.le_of_ble_eq_true rfl)⟩ rfl (Nat.le_of_ble_eq_true rfl) rfl rfl rfl rfl (c_X9_in g_q3) ?_
    refine vv_if_ne 21 18 dX9_gap_15 rfl (by decide) (fun c4 => ?_) (fun c4 => ?_)
    · rw [if_pos c4] at hf
      refine vv_bipush 20 (v := (-2)) dX9_gap_18 rfl (by decide) ?_
      obtain rfl := Option.some.inj hf
      exact vv_iret dX9_gap_20 rfl
    · rw [if_neg c4] at hf
      refine vv_aload_n 22 dX9_gap_21 rfl rfl ?_
      refine vv_iload_n 23 dX9_gap_22 rfl rfl ?_
      obtain ⟨q5, g_q5, hf⟩ := bind_s hf
      refine vv_callV 26 (st := []) (As := [.int x1]) (stk2 := []) (cl2 := 0) (sl2 := 0) dX9_gap_23 rfl lk_RX9_297 w_1369 w_45 rfl t_a0 ⟨(Nat.le_of_ble_eq_true rfl), (Nat.le_of_ble_eq_true rfl)⟩ rfl rfl ⟨(Nat.le_of_ble_eq_true rfl), (Nat.le_of_ble_eq_true rfl)⟩ rfl (Nat.le_of_ble_eq_true rfl) rfl rfl rfl rfl (c_X9_gathers t_a0 g_q5) ?_
      refine vv_lconst 27 (v := 0) dX9_gap_26 rfl (by decide) ?_
      refine vv_lstore_n 28 (L' := [some (.ref a0), some (.int x1), some (.int x2), some (.long (0 : Int64)), none, none, none, none]) dX9_gap_27 rfl (Nat.le_of_ble_eq_true rfl) rfl ?_
      refine vv_ldc2 31 (v := (-1)) dX9_gap_28 rfl w_1482 ?_
      refine vv_lstore 33 (L' := [some (.ref a0), some (.int x1), some (.int x2), some (.long (0 : Int64)), none, some (.long (-1 : Int64)), none, none]) dX9_gap_31 rfl (Nat.le_of_ble_eq_true rfl) rfl ?_
      refine vv_iconst 34 (v := 1) dX9_gap_33 rfl (by decide) ?_
      refine vv_istore 36 (L' := [some (.ref a0), some (.int x1), some (.int x2), some (.long (0 : Int64)), none, some (.long (-1 : Int64)), none, some (.int (1 : Int32))]) dX9_gap_34 rfl (Nat.le_of_ble_eq_true rfl) rfl ?_
      exact VV.lle (v_X9_gap_36 t_a0 FU _ _ _ _ hf) (lle_s (lle_n (lle_s (lle_s (lle_s (lle_s (lle_s (lle_s lle_nil))))))))

theorem c_X9_gap {w : Wo} {K : Kn} {a0 : Nat} {x1 : Int32} {x2 : Int32} {q : (Int32 × Mem)} {m : Mem} (t_a0 : K a0 = some (.inl 8)) (hf : F_X9_gap K m a0 x1 x2 = some q) : MM w K K yX9_gap cX9_gap 8 (some .int) rm_X9_gap [.ref a0, .int x1, .int x2] m (some (.int q.1)) q.2 0 0 :=
  mm_of (ini := false) (n := 5) (plainFor_of_name (by decide)) rfl (fun h => by first | rfl | cases h) (Nat.le_of_ble_eq_true rfl) rfl (v_X9_gap_0 t_a0 hf)

set_option maxHeartbeats 4000000 in
theorem v_X9_row_166 {w : Wo} {K : Kn} {a0 : Nat} {x1 : Int32} {x2 : Int32} {q : (Int32 × Mem)} (t_a0 : K a0 = some (.inl 8)) (k34 : Mem → Int32 → Int32 → Int32 → Option (Int32 × Mem)) (hk34 : ∀ (m : Mem) (x3 : Int32) (x4 : Int32) (x5 : Int32), k34 m x3 x4 x5 = some q → VV w RX9 cX9_row 7 (some .int) rm_X9_row false (QM w K (some (.int q.1)) q.2 0 0) K 34 [some (.ref a0), none, some (.int x2), some (.int x3), some (.int x4), some (.int x5), none] [] 0 0 m) {m : Mem} {x3 : Int32} {x5 : Int32} {s0 : Int32} (hf : f_X9_row_166 K a0 x1 x2 k34 m x3 x5 s0 = some q) : VV w RX9 cX9_row 7 (some .int) rm_X9_row false (QM w K (some (.int q.1)) q.2 0 0) K 166 [some (.ref a0), none, some (.int x2), some (.int x3), none, some (.int x5), none] [.int s0] 0 0 m := by
  unfold f_X9_row_166 at hf
  refine vv_istore 168 (L' := [some (.ref a0), none, some (.int x2), some (.int x3), some (.int s0), some (.int x5), none]) dX9_row_166 rfl (Nat.le_of_ble_eq_true rfl) rfl ?_
  refine vv_iload_n 169 dX9_row_168 rfl rfl ?_
  refine vv_iload 171 dX9_row_169 rfl rfl ?_
  obtain ⟨q1, g_q1, hf⟩ := bind_s hf
  refine vv_callS 174 (st := []) (As := [.int x3, .int s0]) (stk2 := [.int q1]) (cl2 := 0) (sl2 := 0) dX9_row_171 rfl lk_RX9_288 w_827 ⟨(Nat.le_of_ble_eq_true rfl), (Nat.le_of_ble_eq_true rfl)⟩ rfl rfl ⟨(Nat.le_of_ble_eq_true rfl), (Nat.le_of_ble_eq_true rfl)⟩ rfl (Nat.le_of_ble_eq_true rfl) rfl rfl rfl rfl (c_J9_max_7cf53 g_q1) ?_
  refine vv_istore_n 175 (L' := [some (.ref a0), none, some (.int x2), some (.int q1), some (.int s0), some (.int x5), none]) dX9_row_174 rfl (Nat.le_of_ble_eq_true rfl) rfl ?_
  obtain ⟨z2, e_z2, hf⟩ := bd_s hf
  refine vv_iincE (q := 178) (v := z2) (c := 1) (L' := [some (.ref a0), none, some (.int x2), some (.int q1), some (.int s0), some (.int z2), none]) e_z2 dX9_row_175 rfl rfl (by decide) (Nat.le_of_ble_eq_true rfl) rfl ?_
  refine vv_goto 34 dX9_row_178 (by decide) ?_
  exact hk34 _ _ _ _ hf

set_option maxHeartbeats 4000000 in
theorem v_X9_row_161 {w : Wo} {K : Kn} {a0 : Nat} {x1 : Int32} {x2 : Int32} {q : (Int32 × Mem)} (t_a0 : K a0 = some (.inl 8)) (k34 : Mem → Int32 → Int32 → Int32 → Option (Int32 × Mem)) (hk34 : ∀ (m : Mem) (x3 : Int32) (x4 : Int32) (x5 : Int32), k34 m x3 x4 x5 = some q → VV w RX9 cX9_row 7 (some .int) rm_X9_row false (QM w K (some (.int q.1)) q.2 0 0) K 34 [some (.ref a0), none, some (.int x2), some (.int x3), some (.int x4), some (.int x5), none] [] 0 0 m) {m : Mem} {x3 : Int32} {x5 : Int32} (hf : f_X9_row_161 K a0 x1 x2 k34 m x3 x5 = some q) : VV w RX9 cX9_row 7 (some .int) rm_X9_row false (QM w K (some (.int q.1)) q.2 0 0) K 161 [some (.ref a0), none, some (.int x2), some (.int x3), none, some (.int x5), none] [] 0 0 m := by
  unfold f_X9_row_161 at hf
  refine vv_iconst 162 (v := 1) dX9_row_161 rfl (by decide) ?_
  refine vv_goto 166 dX9_row_162 (by decide) ?_
  exact v_X9_row_166 t_a0 k34 hk34 hf

set_option maxHeartbeats 4000000 in
theorem v_X9_row_130 {w : Wo} {K : Kn} {a0 : Nat} {x1 : Int32} {x2 : Int32} {q : (Int32 × Mem)} (t_a0 : K a0 = some (.inl 8)) (k34 : Mem → Int32 → Int32 → Int32 → Option (Int32 × Mem)) (hk34 : ∀ (m : Mem) (x3 : Int32) (x4 : Int32) (x5 : Int32), k34 m x3 x4 x5 = some q → VV w RX9 cX9_row 7 (some .int) rm_X9_row false (QM w K (some (.int q.1)) q.2 0 0) K 34 [some (.ref a0), none, some (.int x2), some (.int x3), some (.int x4), some (.int x5), none] [] 0 0 m) {m : Mem} {x3 : Int32} {x4 : Int32} {x5 : Int32} {s0 : Int32} (hf : f_X9_row_130 K a0 x1 x2 k34 m x3 x4 x5 s0 = some q) : VV w RX9 cX9_row 7 (some .int) rm_X9_row false (QM w K (some (.int q.1)) q.2 0 0) K 130 [some (.ref a0), none, some (.int x2), some (.int x3), some (.int x4), some (.int x5), none] [.int s0] 0 0 m := by
  unfold f_X9_row_130 at hf
  refine vv_istore 132 (L' := [some (.ref a0), none, some (.int x2), some (.int x3), some (.int x4), some (.int x5), some (.int s0)]) dX9_row_130 rfl (Nat.le_of_ble_eq_true rfl) rfl ?_
  refine vv_iload 134 dX9_row_132 rfl rfl ?_
  refine vv_if_eq 144 137 dX9_row_134 rfl (by decide) (fun c1 => ?_) (fun c1 => ?_)
  · rw [if_pos c1] at hf
    refine vv_iload_n 145 dX9_row_144 rfl rfl ?_
    refine vv_if_eq 161 148 dX9_row_145 rfl (by decide) (fun c2 => ?_) (fun c2 => ?_)
    · rw [if_pos c2] at hf
      exact VV.lle (v_X9_row_161 t_a0 k34 hk34 hf) (lle_s (lle_s (lle_s (lle_s (lle_n (lle_s (lle_n lle_nil)))))))
    · rw [if_neg c2] at hf
      refine vv_aload_n 149 dX9_row_148 rfl rfl ?_
      obtain ⟨b3, g_b3, hf⟩ := bind_s hf
      have t_b3 := (ldA_spec g_b3).2
      refine gf_RX9_69 152 dX9_row_149 rfl t_a0 (ldA_spec g_b3).1 ?_
      refine vv_iload 154 dX9_row_152 rfl rfl ?_
      obtain ⟨r4, g_r4, hf⟩ := bind_s hf
      refine vv_lald 155 dX9_row_154 rfl t_b3 g_r4 ?_
      obtain ⟨q5, g_q5, hf⟩ := bind_s hf
      refine vv_callS 158 (st := []) (As := [.long r4]) (stk2 := [.int q5]) (cl2 := 0) (sl2 := 0) dX9_row_155 rfl lk_RX9_355 w_1507 ⟨(Nat.le_of_ble_eq_true rfl), (Nat.le_of_ble_eq_true rfl)⟩ rfl rfl ⟨(Nat.le_of_ble_eq_true rfl), (Nat.le_of_ble_eq_true rfl)⟩ rfl (Nat.le_of_ble_eq_true rfl) rfl rfl rfl rfl (c_X9_isNumber g_q5) ?_
      refine vv_if_eq 165 161 dX9_row_158 rfl (by decide) (fun c6 => ?_) (fun c6 => ?_)
      · rw [if_pos c6] at hf
        refine vv_iconst 166 (v := 0) dX9_row_165 rfl (by decide) ?_
        exact VV.lle (v_X9_row_166 t_a0 k34 hk34 hf) (lle_s (lle_s (lle_s (lle_s (lle_n (lle_s (lle_n lle_nil)))))))
      · rw [if_neg c6] at hf
        exact VV.lle (v_X9_row_161 t_a0 k34 hk34 hf) (lle_s (lle_s (lle_s (lle_s (lle_n (lle_s (lle_n lle_nil)))))))
  · rw [if_neg c1] at hf
    refine vv_iload 139 dX9_row_137 rfl rfl ?_
    refine vv_iconst 140 (v := 1) dX9_row_139 rfl (by decide) ?_
    refine vv_iadd 141 dX9_row_140 rfl ?_
    refine vv_goto 166 dX9_row_141 (by decide) ?_
    exact VV.lle (v_X9_row_166 t_a0 k34 hk34 hf) (lle_s (lle_s (lle_s (lle_s (lle_n (lle_s (lle_n lle_nil)))))))

set_option maxHeartbeats 4000000 in
theorem v_X9_row_125 {w : Wo} {K : Kn} {a0 : Nat} {x1 : Int32} {x2 : Int32} {q : (Int32 × Mem)} (t_a0 : K a0 = some (.inl 8)) (k34 : Mem → Int32 → Int32 → Int32 → Option (Int32 × Mem)) (hk34 : ∀ (m : Mem) (x3 : Int32) (x4 : Int32) (x5 : Int32), k34 m x3 x4 x5 = some q → VV w RX9 cX9_row 7 (some .int) rm_X9_row false (QM w K (some (.int q.1)) q.2 0 0) K 34 [some (.ref a0), none, some (.int x2), some (.int x3), some (.int x4), some (.int x5), none] [] 0 0 m) {m : Mem} {x3 : Int32} {x4 : Int32} {x5 : Int32} (hf : f_X9_row_125 K a0 x1 x2 k34 m x3 x4 x5 = some q) : VV w RX9 cX9_row 7 (some .int) rm_X9_row false (QM w K (some (.int q.1)) q.2 0 0) K 125 [some (.ref a0), none, some (.int x2), some (.int x3), some (.int x4), some (.int x5), none] [] 0 0 m := by
  unfold f_X9_row_125 at hf
  refine vv_iconst 126 (v := 1) dX9_row_125 rfl (by decide) ?_
  refine vv_goto 130 dX9_row_126 (by decide) ?_
  exact v_X9_row_130 t_a0 k34 hk34 hf

set_option maxHeartbeats 4000000 in
theorem v_X9_row_129 {w : Wo} {K : Kn} {a0 : Nat} {x1 : Int32} {x2 : Int32} {q : (Int32 × Mem)} (t_a0 : K a0 = some (.inl 8)) (k34 : Mem → Int32 → Int32 → Int32 → Option (Int32 × Mem)) (hk34 : ∀ (m : Mem) (x3 : Int32) (x4 : Int32) (x5 : Int32), k34 m x3 x4 x5 = some q → VV w RX9 cX9_row 7 (some .int) rm_X9_row false (QM w K (some (.int q.1)) q.2 0 0) K 34 [some (.ref a0), none, some (.int x2), some (.int x3), some (.int x4), some (.int x5), none] [] 0 0 m) {m : Mem} {x3 : Int32} {x4 : Int32} {x5 : Int32} (hf : f_X9_row_129 K a0 x1 x2 k34 m x3 x4 x5 = some q) : VV w RX9 cX9_row 7 (some .int) rm_X9_row false (QM w K (some (.int q.1)) q.2 0 0) K 129 [some (.ref a0), none, some (.int x2), some (.int x3), some (.int x4), some (.int x5), none] [] 0 0 m := by
  unfold f_X9_row_129 at hf
  refine vv_iconst 130 (v := 0) dX9_row_129 rfl (by decide) ?_
  exact v_X9_row_130 t_a0 k34 hk34 hf

set_option maxHeartbeats 4000000 in
theorem v_X9_row_34B {w : Wo} {K : Kn} {a0 : Nat} {x1 : Int32} {x2 : Int32} {q : (Int32 × Mem)} (t_a0 : K a0 = some (.inl 8)) (k34 : Mem → Int32 → Int32 → Int32 → Option (Int32 × Mem)) (hk34 : ∀ (m : Mem) (x3 : Int32) (x4 : Int32) (x5 : Int32), k34 m x3 x4 x5 = some q → VV w RX9 cX9_row 7 (some .int) rm_X9_row false (QM w K (some (.int q.1)) q.2 0 0) K 34 [some (.ref a0), none, some (.int x2), some (.int x3), some (.int x4), some (.int x5), none] [] 0 0 m) {m : Mem} {x3 : Int32} {x4 : Int32} {x5 : Int32} (hf : f_X9_row_34B K a0 x1 x2 k34 m x3 x4 x5 = some q) : VV w RX9 cX9_row 7 (some .int) rm_X9_row false (QM w K (some (.int q.1)) q.2 0 0) K 34 [some (.ref a0), none, some (.int x2), some (.int x3), some (.int x4), some (.int x5), none] [] 0 0 m := by
  unfold f_X9_row_34B at hf
  refine vv_iload 36 dX9_row_34 rfl rfl ?_
  refine vv_aload_n 37 dX9_row_36 rfl rfl ?_
  refine gf_RX9_248 40 dX9_row_37 rfl t_a0 ?_
  refine vv_icmp_ge 181 43 dX9_row_40 rfl (by decide) (fun c1 => ?_) (fun c1 => ?_)
  · rw [if_pos c1] at hf
    refine vv_iload_n 182 dX9_row_181 rfl rfl ?_
    obtain rfl := Option.some.inj hf
    exact vv_iret dX9_row_182 rfl
  · rw [if_neg c1] at hf
    refine vv_iload 45 dX9_row_43 rfl rfl ?_
    refine vv_if_le 129 48 dX9_row_45 rfl (by decide) (fun c2 => ?_) (fun c2 => ?_)
    · rw [if_pos c2] at hf
      exact v_X9_row_129 t_a0 k34 hk34 hf
    · rw [if_neg c2] at hf
      refine vv_iload_n 49 dX9_row_48 rfl rfl ?_
      refine vv_if_ne 75 52 dX9_row_49 rfl (by decide) (fun c3 => ?_) (fun c3 => ?_)
      · rw [if_pos c3] at hf
        refine vv_aload_n 53 dX9_row_52 rfl rfl ?_
        obtain ⟨b4, g_b4, hf⟩ := bind_s hf
        have t_b4 := (ldA_spec g_b4).2
        refine gf_RX9_69 56 dX9_row_53 rfl t_a0 (ldA_spec g_b4).1 ?_
        refine vv_iload 58 dX9_row_56 rfl rfl ?_
        obtain ⟨r5, g_r5, hf⟩ := bind_s hf
        refine vv_lald 59 dX9_row_58 rfl t_b4 g_r5 ?_
        refine vv_aload_n 60 dX9_row_59 rfl rfl ?_
        obtain ⟨b6, g_b6, hf⟩ := bind_s hf
        have t_b6 := (ldA_spec g_b6).2
        refine gf_RX9_69 63 dX9_row_60 rfl t_a0 (ldA_spec g_b6).1 ?_
        refine vv_iload 65 dX9_row_63 rfl rfl ?_
        refine vv_iconst 66 (v := 1) dX9_row_65 rfl (by decide) ?_
        refine vv_isub 67 dX9_row_66 rfl ?_
        obtain ⟨r7, g_r7, hf⟩ := bind_s hf
        refine vv_lald 68 dX9_row_67 rfl t_b6 g_r7 ?_
        refine vv_lcmp 69 dX9_row_68 rfl ?_
        refine vv_if_ne 129 72 dX9_row_69 rfl (by decide) (fun c8 => ?_) (fun c8 => ?_)
        · rw [if_pos c8] at hf
          refine vv_goto 125 dX9_row_72 (by decide) ?_
          exact v_X9_row_125 t_a0 k34 hk34 hf
        · rw [if_neg c8] at hf
          exact v_X9_row_129 t_a0 k34 hk34 hf
      · rw [if_neg c3] at hf
        refine vv_aload_n 76 dX9_row_75 rfl rfl ?_
        obtain ⟨b9, g_b9, hf⟩ := bind_s hf
        have t_b9 := (ldA_spec g_b9).2
        refine gf_RX9_69 79 dX9_row_76 rfl t_a0 (ldA_spec g_b9).1 ?_
        refine vv_iload 81 dX9_row_79 rfl rfl ?_
        refine vv_iconst 82 (v := 1) dX9_row_81 rfl (by decide) ?_
        refine vv_isub 83 dX9_row_82 rfl ?_
        obtain ⟨r10, g_r10, hf⟩ := bind_s hf
        refine vv_lald 84 dX9_row_83 rfl t_b9 g_r10 ?_
        obtain ⟨q11, g_q11, hf⟩ := bind_s hf
        refine vv_callS 87 (st := []) (As := [.long r10]) (stk2 := [.int q11]) (cl2 := 0) (sl2 := 0) dX9_row_84 rfl lk_RX9_355 w_1507 ⟨(Nat.le_of_ble_eq_true rfl), (Nat.le_of_ble_eq_true rfl)⟩ rfl rfl ⟨(Nat.le_of_ble_eq_true rfl), (Nat.le_of_ble_eq_true rfl)⟩ rfl (Nat.le_of_ble_eq_true rfl) rfl rfl rfl rfl (c_X9_isNumber g_q11) ?_
        refine vv_if_eq 129 90 dX9_row_87 rfl (by decide) (fun c12 => ?_) (fun c12 => ?_)
        · rw [if_pos c12] at hf
          exact v_X9_row_129 t_a0 k34 hk34 hf
        · rw [if_neg c12] at hf
          refine vv_aload_n 91 dX9_row_90 rfl rfl ?_
          obtain ⟨b13, g_b13, hf⟩ := bind_s hf
          have t_b13 := (ldA_spec g_b13).2
          refine gf_RX9_69 94 dX9_row_91 rfl t_a0 (ldA_spec g_b13).1 ?_
          refine vv_iload 96 dX9_row_94 rfl rfl ?_
          obtain ⟨r14, g_r14, hf⟩ := bind_s hf
          refine vv_lald 97 dX9_row_96 rfl t_b13 g_r14 ?_
          obtain ⟨q15, g_q15, hf⟩ := bind_s hf
          refine vv_callS 100 (st := []) (As := [.long r14]) (stk2 := [.int q15]) (cl2 := 0) (sl2 := 0) dX9_row_97 rfl lk_RX9_355 w_1507 ⟨(Nat.le_of_ble_eq_true rfl), (Nat.le_of_ble_eq_true rfl)⟩ rfl rfl ⟨(Nat.le_of_ble_eq_true rfl), (Nat.le_of_ble_eq_true rfl)⟩ rfl (Nat.le_of_ble_eq_true rfl) rfl rfl rfl rfl (c_X9_isNumber g_q15) ?_
          refine vv_if_eq 129 103 dX9_row_100 rfl (by decide) (fun c16 => ?_) (fun c16 => ?_)
          · rw [if_pos c16] at hf
            exact v_X9_row_129 t_a0 k34 hk34 hf
          · rw [if_neg c16] at hf
            refine vv_aload_n 104 dX9_row_103 rfl rfl ?_
            obtain ⟨b17, g_b17, hf⟩ := bind_s hf
            have t_b17 := (ldA_spec g_b17).2
            refine gf_RX9_69 107 dX9_row_104 rfl t_a0 (ldA_spec g_b17).1 ?_
            refine vv_iload 109 dX9_row_107 rfl rfl ?_
            refine vv_iconst 110 (v := 1) dX9_row_109 rfl (by decide) ?_
            refine vv_isub 111 dX9_row_110 rfl ?_
            obtain ⟨r18, g_r18, hf⟩ := bind_s hf
            refine vv_lald 112 dX9_row_111 rfl t_b17 g_r18 ?_
            refine vv_aload_n 113 dX9_row_112 rfl rfl ?_
            obtain ⟨b19, g_b19, hf⟩ := bind_s hf
            have t_b19 := (ldA_spec g_b19).2
            refine gf_RX9_69 116 dX9_row_113 rfl t_a0 (ldA_spec g_b19).1 ?_
            refine vv_iload 118 dX9_row_116 rfl rfl ?_
            obtain ⟨r20, g_r20, hf⟩ := bind_s hf
            refine vv_lald 119 dX9_row_118 rfl t_b19 g_r20 ?_
            obtain ⟨q21, g_q21, hf⟩ := bind_s hf
            refine vv_callS 122 (st := []) (As := [.long r18, .long r20]) (stk2 := [.int q21]) (cl2 := 0) (sl2 := 0) dX9_row_119 rfl lk_RX9_375 w_1519 ⟨(Nat.le_of_ble_eq_true rfl), (Nat.le_of_ble_eq_true rfl)⟩ rfl rfl ⟨(Nat.le_of_ble_eq_true rfl), (Nat.le_of_ble_eq_true rfl)⟩ rfl (Nat.le_of_ble_eq_true rfl) rfl rfl rfl rfl (c_X9_isLess g_q21) ?_
            refine vv_if_eq 129 125 dX9_row_122 rfl (by decide) (fun c22 => ?_) (fun c22 => ?_)
            · rw [if_pos c22] at hf
              exact v_X9_row_129 t_a0 k34 hk34 hf
            · rw [if_neg c22] at hf
              exact v_X9_row_125 t_a0 k34 hk34 hf

theorem v_X9_row_34 {w : Wo} {K : Kn} {a0 : Nat} {x1 : Int32} {x2 : Int32} {q : (Int32 × Mem)} (t_a0 : K a0 = some (.inl 8)) : ∀ (n : Nat) (m : Mem) (x3 : Int32) (x4 : Int32) (x5 : Int32), f_X9_row_34 K a0 x1 x2 n m x3 x4 x5 = some q → VV w RX9 cX9_row 7 (some .int) rm_X9_row false (QM w K (some (.int q.1)) q.2 0 0) K 34 [some (.ref a0), none, some (.int x2), some (.int x3), some (.int x4), some (.int x5), none] [] 0 0 m := by
  intro n
  induction n with
  | zero => intro m x3 x4 x5 hf; cases hf
  | succ n ih => intro m x3 x4 x5 hf; exact v_X9_row_34B (a0 := a0) (x1 := x1) (x2 := x2) t_a0 (f_X9_row_34 K a0 x1 x2 n) ih hf

set_option maxHeartbeats 4000000 in
theorem v_X9_row_0 {w : Wo} {K : Kn} {a0 : Nat} {x1 : Int32} {x2 : Int32} {q : (Int32 × Mem)} (t_a0 : K a0 = some (.inl 8)) {m : Mem} (hf : f_X9_row K a0 x1 x2 m = some q) : VV w RX9 cX9_row 7 (some .int) rm_X9_row false (QM w K (some (.int q.1)) q.2 0 0) K 0 [some (.ref a0), some (.int x1), some (.int x2), none, none, none, none] [] 0 0 m := by
  unfold f_X9_row at hf
  refine vv_aload_n 1 dX9_row_0 rfl rfl ?_
  refine vv_iload_n 2 dX9_row_1 rfl rfl ?_
  obtain ⟨q1, g_q1, hf⟩ := bind_s hf
  refine vv_callV 5 (st := []) (As := [.int x1]) (stk2 := [.int q1]) (cl2 := 0) (sl2 := 0) dX9_row_2 rfl lk_RX9_87 w_1220 w_21 rfl t_a0 ⟨(Nat.le_of_ble_eq_true rfl), (Nat.le_of_ble_eq_true rfl)⟩ rfl rfl ⟨(Nat.le_of_ble_eq_true rfl), (Nat.le_of_ble_eq_true rfl)⟩ rfl (Nat.le_of_ble_eq_true rfl) rfl rfl rfl rfl (c_X9_isSeries t_a0 g_q1) ?_
  refine vv_if_eq 18 8 dX9_row_5 rfl (by decide) (fun c2 => ?_) (fun c2 => ?_)
  · rw [if_pos c2] at hf
    refine vv_bipush 20 (v := (-2)) dX9_row_18 rfl (by decide) ?_
    obtain rfl := Option.some.inj hf
    exact vv_iret dX9_row_20 rfl
  · rw [if_neg c2] at hf
    refine vv_iload_n 9 dX9_row_8 rfl rfl ?_
    refine vv_i2l 10 dX9_row_9 rfl ?_
    refine vv_lconst 11 (v := 0) dX9_row_10 rfl (by decide) ?_
    refine vv_lconst 12 (v := 1) dX9_row_11 rfl (by decide) ?_
    obtain ⟨q3, g_q3, hf⟩ := bind_s hf
    refine vv_callS 15 (st := []) (As := [.long ((x2).toInt64), .long (0 : Int64), .long (1 : Int64)]) (stk2 := [.int q3]) (cl2 := 0) (sl2 := 0) dX9_row_12 rfl lk_RX9_83 w_1206 ⟨(Nat.le_of_ble_eq_true rfl), (Nat.le_of_ble_eq_true rfl)⟩ rfl rfl ⟨(Nat.le_of_ble_eq_true rfl), (Nat.le_of_ble_eq_true rfl)⟩ rfl (Nat.le_of_ble_eq_true rfl) rfl rfl rfl rfl (c_X9_in g_q3) ?_
    refine vv_if_ne 21 18 dX9_row_15 rfl (by decide) (fun c4 => ?_) (fun c4 => ?_)
    · rw [if_pos c4] at hf
      refine vv_bipush 20 (v := (-2)) dX9_row_18 rfl (by decide) ?_
      obtain rfl := Option.some.inj hf
      exact vv_iret dX9_row_20 rfl
    · rw [if_neg c4] at hf
      refine vv_aload_n 22 dX9_row_21 rfl rfl ?_
      refine vv_iload_n 23 dX9_row_22 rfl rfl ?_
      obtain ⟨q5, g_q5, hf⟩ := bind_s hf
      refine vv_callV 26 (st := []) (As := [.int x1]) (stk2 := []) (cl2 := 0) (sl2 := 0) dX9_row_23 rfl lk_RX9_297 w_1369 w_45 rfl t_a0 ⟨(Nat.le_of_ble_eq_true rfl), (Nat.le_of_ble_eq_true rfl)⟩ rfl rfl ⟨(Nat.le_of_ble_eq_true rfl), (Nat.le_of_ble_eq_true rfl)⟩ rfl (Nat.le_of_ble_eq_true rfl) rfl rfl rfl rfl (c_X9_gathers t_a0 g_q5) ?_
      refine vv_iconst 27 (v := 0) dX9_row_26 rfl (by decide) ?_
      refine vv_istore_n 28 (L' := [some (.ref a0), some (.int x1), some (.int x2), some (.int (0 : Int32)), none, none, none]) dX9_row_27 rfl (Nat.le_of_ble_eq_true rfl) rfl ?_
      refine vv_iconst 29 (v := 0) dX9_row_28 rfl (by decide) ?_
      refine vv_istore 31 (L' := [some (.ref a0), some (.int x1), some (.int x2), some (.int (0 : Int32)), some (.int (0 : Int32)), none, none]) dX9_row_29 rfl (Nat.le_of_ble_eq_true rfl) rfl ?_
      refine vv_iconst 32 (v := 0) dX9_row_31 rfl (by decide) ?_
      refine vv_istore 34 (L' := [some (.ref a0), some (.int x1), some (.int x2), some (.int (0 : Int32)), some (.int (0 : Int32)), some (.int (0 : Int32)), none]) dX9_row_32 rfl (Nat.le_of_ble_eq_true rfl) rfl ?_
      exact VV.lle (v_X9_row_34 t_a0 FU _ _ _ _ hf) (lle_s (lle_n (lle_s (lle_s (lle_s (lle_s (lle_s lle_nil)))))))

theorem c_X9_row {w : Wo} {K : Kn} {a0 : Nat} {x1 : Int32} {x2 : Int32} {q : (Int32 × Mem)} {m : Mem} (t_a0 : K a0 = some (.inl 8)) (hf : F_X9_row K m a0 x1 x2 = some q) : MM w K K yX9_row cX9_row 7 (some .int) rm_X9_row [.ref a0, .int x1, .int x2] m (some (.int q.1)) q.2 0 0 :=
  mm_of (ini := false) (n := 4) (plainFor_of_name (by decide)) rfl (fun h => by first | rfl | cases h) (Nat.le_of_ble_eq_true rfl) rfl (v_X9_row_0 t_a0 hf)

set_option maxHeartbeats 4000000 in
theorem v_X9_areTwo_20 {w : Wo} {K : Kn} {a0 : Nat} {x1 : Int32} {x2 : Int32} {q : Int32} {m : Mem} (t_a0 : K a0 = some (.inl 8)) (hf : f_X9_areTwo_20 K m a0 x1 x2 = some q) : VV w RX9 cX9_areTwo 3 (some .boolean) rm_X9_areTwo false (QM w K (some (.int q)) m 0 0) K 20 [none, none, none] [] 0 0 m := by
  unfold f_X9_areTwo_20 at hf
  refine vv_iconst 21 (v := 0) dX9_areTwo_20 rfl (by decide) ?_
  obtain rfl := Option.some.inj hf
  exact vv_zret dX9_areTwo_21 rfl (Or.inl rfl)

set_option maxHeartbeats 4000000 in
theorem v_X9_areTwo_0 {w : Wo} {K : Kn} {a0 : Nat} {x1 : Int32} {x2 : Int32} {q : Int32} {m : Mem} (t_a0 : K a0 = some (.inl 8)) (hf : f_X9_areTwo K m a0 x1 x2 = some q) : VV w RX9 cX9_areTwo 3 (some .boolean) rm_X9_areTwo false (QM w K (some (.int q)) m 0 0) K 0 [some (.ref a0), some (.int x1), some (.int x2)] [] 0 0 m := by
  unfold f_X9_areTwo at hf
  refine vv_aload_n 1 dX9_areTwo_0 rfl rfl ?_
  refine vv_iload_n 2 dX9_areTwo_1 rfl rfl ?_
  obtain ⟨q1, g_q1, hf⟩ := bind_s hf
  refine vv_callV 5 (st := []) (As := [.int x1]) (stk2 := [.int q1]) (cl2 := 0) (sl2 := 0) dX9_areTwo_2 rfl lk_RX9_87 w_1220 w_21 rfl t_a0 ⟨(Nat.le_of_ble_eq_true rfl), (Nat.le_of_ble_eq_true rfl)⟩ rfl rfl ⟨(Nat.le_of_ble_eq_true rfl), (Nat.le_of_ble_eq_true rfl)⟩ rfl (Nat.le_of_ble_eq_true rfl) rfl rfl rfl rfl (c_X9_isSeries t_a0 g_q1) ?_
  refine vv_if_eq 20 8 dX9_areTwo_5 rfl (by decide) (fun c2 => ?_) (fun c2 => ?_)
  · rw [if_pos c2] at hf
    exact VV.lle (v_X9_areTwo_20 t_a0 hf) (lle_n (lle_n (lle_n lle_nil)))
  · rw [if_neg c2] at hf
    refine vv_aload_n 9 dX9_areTwo_8 rfl rfl ?_
    refine vv_iload_n 10 dX9_areTwo_9 rfl rfl ?_
    obtain ⟨q3, g_q3, hf⟩ := bind_s hf
    refine vv_callV 13 (st := []) (As := [.int x2]) (stk2 := [.int q3]) (cl2 := 0) (sl2 := 0) dX9_areTwo_10 rfl lk_RX9_87 w_1220 w_21 rfl t_a0 ⟨(Nat.le_of_ble_eq_true rfl), (Nat.le_of_ble_eq_true rfl)⟩ rfl rfl ⟨(Nat.le_of_ble_eq_true rfl), (Nat.le_of_ble_eq_true rfl)⟩ rfl (Nat.le_of_ble_eq_true rfl) rfl rfl rfl rfl (c_X9_isSeries t_a0 g_q3) ?_
    refine vv_if_eq 20 16 dX9_areTwo_13 rfl (by decide) (fun c4 => ?_) (fun c4 => ?_)
    · rw [if_pos c4] at hf
      exact VV.lle (v_X9_areTwo_20 t_a0 hf) (lle_n (lle_n (lle_n lle_nil)))
    · rw [if_neg c4] at hf
      refine vv_iconst 17 (v := 1) dX9_areTwo_16 rfl (by decide) ?_
      refine vv_goto 21 dX9_areTwo_17 (by decide) ?_
      obtain rfl := Option.some.inj hf
      exact vv_zret dX9_areTwo_21 rfl (Or.inr rfl)

theorem c_X9_areTwo {w : Wo} {K : Kn} {a0 : Nat} {x1 : Int32} {x2 : Int32} {q : Int32} {m : Mem} (t_a0 : K a0 = some (.inl 8)) (hf : F_X9_areTwo K m a0 x1 x2 = some q) : MM w K K yX9_areTwo cX9_areTwo 3 (some .boolean) rm_X9_areTwo [.ref a0, .int x1, .int x2] m (some (.int q)) m 0 0 :=
  mm_of (ini := false) (n := 0) (plainFor_of_name (by decide)) rfl (fun h => by first | rfl | cases h) (Nat.le_of_ble_eq_true rfl) rfl (v_X9_areTwo_0 t_a0 hf)

set_option maxHeartbeats 4000000 in
theorem v_X9_gathersTwo_15B {w : Wo} {K : Kn} {a0 : Nat} {x1 : Int32} {x2 : Int32} {q : Mem} (t_a0 : K a0 = some (.inl 8)) (k15 : Mem → Int32 → Option Mem) (hk15 : ∀ (m : Mem) (x3 : Int32), k15 m x3 = some q → VV w RX9 cX9_gathersTwo 4 none rm_X9_gathersTwo false (QM w K none q 0 0) K 15 [some (.ref a0), some (.int x1), none, some (.int x3)] [] 0 0 m) {m : Mem} {x3 : Int32} (hf : f_X9_gathersTwo_15B K a0 x1 x2 k15 m x3 = some q) : VV w RX9 cX9_gathersTwo 4 none rm_X9_gathersTwo false (QM w K none q 0 0) K 15 [some (.ref a0), some (.int x1), none, some (.int x3)] [] 0 0 m := by
  unfold f_X9_gathersTwo_15B at hf
  refine vv_iload_n 16 dX9_gathersTwo_15 rfl rfl ?_
  refine vv_aload_n 17 dX9_gathersTwo_16 rfl rfl ?_
  refine gf_RX9_248 20 dX9_gathersTwo_17 rfl t_a0 ?_
  refine vv_icmp_ge 53 23 dX9_gathersTwo_20 rfl (by decide) (fun c1 => ?_) (fun c1 => ?_)
  · rw [if_pos c1] at hf
    refine vv_aload_n 54 dX9_gathersTwo_53 rfl rfl ?_
    refine vv_iload_n 55 dX9_gathersTwo_54 rfl rfl ?_
    obtain ⟨q2, g_q2, hf⟩ := bind_s hf
    refine vv_callV 58 (st := []) (As := [.int x1]) (stk2 := []) (cl2 := 0) (sl2 := 0) dX9_gathersTwo_55 rfl lk_RX9_297 w_1369 w_45 rfl t_a0 ⟨(Nat.le_of_ble_eq_true rfl), (Nat.le_of_ble_eq_true rfl)⟩ rfl rfl ⟨(Nat.le_of_ble_eq_true rfl), (Nat.le_of_ble_eq_true rfl)⟩ rfl (Nat.le_of_ble_eq_true rfl) rfl rfl rfl rfl (c_X9_gathers t_a0 g_q2) ?_
    obtain rfl := Option.some.inj hf
    exact vv_vret dX9_gathersTwo_58 rfl
  · rw [if_neg c1] at hf
    refine vv_aload_n 24 dX9_gathersTwo_23 rfl rfl ?_
    obtain ⟨b3, g_b3, hf⟩ := bind_s hf
    have t_b3 := (ldA_spec g_b3).2
    refine gf_RX9_75 27 dX9_gathersTwo_24 rfl t_a0 (ldA_spec g_b3).1 ?_
    refine vv_iload_n 28 dX9_gathersTwo_27 rfl rfl ?_
    refine vv_aload_n 29 dX9_gathersTwo_28 rfl rfl ?_
    obtain ⟨b4, g_b4, hf⟩ := bind_s hf
    have t_b4 := (ldA_spec g_b4).2
    refine gf_RX9_66 32 dX9_gathersTwo_29 rfl t_a0 (ldA_spec g_b4).1 ?_
    refine vv_iload_n 33 dX9_gathersTwo_32 rfl rfl ?_
    obtain ⟨r5, g_r5, hf⟩ := bind_s hf
    refine vv_lald 34 dX9_gathersTwo_33 rfl t_b4 g_r5 ?_
    obtain ⟨m6, g_m6, hf⟩ := bind_s hf
    refine vv_last 35 dX9_gathersTwo_34 rfl t_b3 g_m6 ?_
    refine vv_aload_n 36 dX9_gathersTwo_35 rfl rfl ?_
    obtain ⟨b7, g_b7, hf⟩ := bind_s hf
    have t_b7 := (ldA_spec g_b7).2
    refine gf_RX9_78 39 dX9_gathersTwo_36 rfl t_a0 (ldA_spec g_b7).1 ?_
    refine vv_iload_n 40 dX9_gathersTwo_39 rfl rfl ?_
    refine vv_aload_n 41 dX9_gathersTwo_40 rfl rfl ?_
    obtain ⟨b8, g_b8, hf⟩ := bind_s hf
    have t_b8 := (ldA_spec g_b8).2
    refine gf_RX9_69 44 dX9_gathersTwo_41 rfl t_a0 (ldA_spec g_b8).1 ?_
    refine vv_iload_n 45 dX9_gathersTwo_44 rfl rfl ?_
    obtain ⟨r9, g_r9, hf⟩ := bind_s hf
    refine vv_lald 46 dX9_gathersTwo_45 rfl t_b8 g_r9 ?_
    obtain ⟨m10, g_m10, hf⟩ := bind_s hf
    refine vv_last 47 dX9_gathersTwo_46 rfl t_b7 g_m10 ?_
    obtain ⟨z11, e_z11, hf⟩ := bd_s hf
    refine vv_iincE (q := 50) (v := z11) (c := 1) (L' := [some (.ref a0), some (.int x1), none, some (.int z11)]) e_z11 dX9_gathersTwo_47 rfl rfl (by decide) (Nat.le_of_ble_eq_true rfl) rfl ?_
    refine vv_goto 15 dX9_gathersTwo_50 (by decide) ?_
    exact hk15 _ _ hf

theorem v_X9_gathersTwo_15 {w : Wo} {K : Kn} {a0 : Nat} {x1 : Int32} {x2 : Int32} {q : Mem} (t_a0 : K a0 = some (.inl 8)) : ∀ (n : Nat) (m : Mem) (x3 : Int32), f_X9_gathersTwo_15 K a0 x1 x2 n m x3 = some q → VV w RX9 cX9_gathersTwo 4 none rm_X9_gathersTwo false (QM w K none q 0 0) K 15 [some (.ref a0), some (.int x1), none, some (.int x3)] [] 0 0 m := by
  intro n
  induction n with
  | zero => intro m x3 hf; cases hf
  | succ n ih => intro m x3 hf; exact v_X9_gathersTwo_15B (a0 := a0) (x1 := x1) (x2 := x2) t_a0 (f_X9_gathersTwo_15 K a0 x1 x2 n) ih hf

set_option maxHeartbeats 4000000 in
theorem v_X9_gathersTwo_0 {w : Wo} {K : Kn} {a0 : Nat} {x1 : Int32} {x2 : Int32} {q : Mem} (t_a0 : K a0 = some (.inl 8)) {m : Mem} (hf : f_X9_gathersTwo K a0 x1 x2 m = some q) : VV w RX9 cX9_gathersTwo 4 none rm_X9_gathersTwo false (QM w K none q 0 0) K 0 [some (.ref a0), some (.int x1), some (.int x2), none] [] 0 0 m := by
  unfold f_X9_gathersTwo at hf
  refine vv_aload_n 1 dX9_gathersTwo_0 rfl rfl ?_
  refine vv_iload_n 2 dX9_gathersTwo_1 rfl rfl ?_
  obtain ⟨q1, g_q1, hf⟩ := bind_s hf
  refine vv_callV 5 (st := []) (As := [.int x2]) (stk2 := []) (cl2 := 0) (sl2 := 0) dX9_gathersTwo_2 rfl lk_RX9_297 w_1369 w_45 rfl t_a0 ⟨(Nat.le_of_ble_eq_true rfl), (Nat.le_of_ble_eq_true rfl)⟩ rfl rfl ⟨(Nat.le_of_ble_eq_true rfl), (Nat.le_of_ble_eq_true rfl)⟩ rfl (Nat.le_of_ble_eq_true rfl) rfl rfl rfl rfl (c_X9_gathers t_a0 g_q1) ?_
  refine vv_aload_n 6 dX9_gathersTwo_5 rfl rfl ?_
  refine vv_aload_n 7 dX9_gathersTwo_6 rfl rfl ?_
  refine gf_RX9_248 10 dX9_gathersTwo_7 rfl t_a0 ?_
  obtain ⟨m2, e_m2, hf⟩ := bd_s hf
  refine pf_RX9_382 13 dX9_gathersTwo_10 rfl t_a0 e_m2 ?_
  refine vv_iconst 14 (v := 0) dX9_gathersTwo_13 rfl (by decide) ?_
  refine vv_istore_n 15 (L' := [some (.ref a0), some (.int x1), some (.int x2), some (.int (0 : Int32))]) dX9_gathersTwo_14 rfl (Nat.le_of_ble_eq_true rfl) rfl ?_
  exact VV.lle (v_X9_gathersTwo_15 t_a0 FU _ _ hf) (lle_s (lle_s (lle_n (lle_s lle_nil))))

theorem c_X9_gathersTwo {w : Wo} {K : Kn} {a0 : Nat} {x1 : Int32} {x2 : Int32} {q : Mem} {m : Mem} (t_a0 : K a0 = some (.inl 8)) (hf : F_X9_gathersTwo K m a0 x1 x2 = some q) : MM w K K yX9_gathersTwo cX9_gathersTwo 4 none rm_X9_gathersTwo [.ref a0, .int x1, .int x2] m none q 0 0 :=
  mm_of (ini := false) (n := 1) (plainFor_of_name (by decide)) rfl (fun h => by first | rfl | cases h) (Nat.le_of_ble_eq_true rfl) rfl (v_X9_gathersTwo_0 t_a0 hf)

set_option maxHeartbeats 4000000 in
theorem v_X9_both_92 {w : Wo} {K : Kn} {a0 : Nat} {x1 : Int32} {x2 : Int32} {x3 : Int32} {q : (Int32 × Mem)} (t_a0 : K a0 = some (.inl 8)) (k34 : Mem → Int32 → Int32 → Option (Int32 × Mem)) (hk34 : ∀ (m : Mem) (x4 : Int32) (x5 : Int32), k34 m x4 x5 = some q → VV w RX9 cX9_both 7 (some .int) rm_X9_both false (QM w K (some (.int q.1)) q.2 0 0) K 34 [some (.ref a0), none, none, some (.int x3), some (.int x4), some (.int x5), none] [] 0 0 m) {m : Mem} {x5 : Int32} {s0 : Int32} {s1 : Int32} (hf : f_X9_both_92 K a0 x1 x2 x3 k34 m x5 s0 s1 = some q) : VV w RX9 cX9_both 7 (some .int) rm_X9_both false (QM w K (some (.int q.1)) q.2 0 0) K 92 [some (.ref a0), none, none, some (.int x3), none, some (.int x5), none] [.int s1, .int s0] 0 0 m := by
  unfold f_X9_both_92 at hf
  refine vv_iadd 93 dX9_both_92 rfl ?_
  obtain ⟨z1, e_z1, hf⟩ := bd_s hf
  refine vv_istoreE (q := 95) (v := z1) (L' := [some (.ref a0), none, none, some (.int x3), some (.int z1), some (.int x5), none]) e_z1 dX9_both_93 rfl (Nat.le_of_ble_eq_true rfl) rfl ?_
  obtain ⟨z2, e_z2, hf⟩ := bd_s hf
  refine vv_iincE (q := 98) (v := z2) (c := 1) (L' := [some (.ref a0), none, none, some (.int x3), some (.int z1), some (.int z2), none]) e_z2 dX9_both_95 rfl rfl (by decide) (Nat.le_of_ble_eq_true rfl) rfl ?_
  refine vv_goto 34 dX9_both_98 (by decide) ?_
  exact hk34 _ _ _ hf

set_option maxHeartbeats 4000000 in
theorem v_X9_both_87 {w : Wo} {K : Kn} {a0 : Nat} {x1 : Int32} {x2 : Int32} {x3 : Int32} {q : (Int32 × Mem)} (t_a0 : K a0 = some (.inl 8)) (k34 : Mem → Int32 → Int32 → Option (Int32 × Mem)) (hk34 : ∀ (m : Mem) (x4 : Int32) (x5 : Int32), k34 m x4 x5 = some q → VV w RX9 cX9_both 7 (some .int) rm_X9_both false (QM w K (some (.int q.1)) q.2 0 0) K 34 [some (.ref a0), none, none, some (.int x3), some (.int x4), some (.int x5), none] [] 0 0 m) {m : Mem} {x5 : Int32} {s0 : Int32} (hf : f_X9_both_87 K a0 x1 x2 x3 k34 m x5 s0 = some q) : VV w RX9 cX9_both 7 (some .int) rm_X9_both false (QM w K (some (.int q.1)) q.2 0 0) K 87 [some (.ref a0), none, none, some (.int x3), none, some (.int x5), none] [.int s0] 0 0 m := by
  unfold f_X9_both_87 at hf
  refine vv_iconst 88 (v := 1) dX9_both_87 rfl (by decide) ?_
  refine vv_goto 92 dX9_both_88 (by decide) ?_
  exact v_X9_both_92 t_a0 k34 hk34 hf

set_option maxHeartbeats 4000000 in
theorem v_X9_both_91 {w : Wo} {K : Kn} {a0 : Nat} {x1 : Int32} {x2 : Int32} {x3 : Int32} {q : (Int32 × Mem)} (t_a0 : K a0 = some (.inl 8)) (k34 : Mem → Int32 → Int32 → Option (Int32 × Mem)) (hk34 : ∀ (m : Mem) (x4 : Int32) (x5 : Int32), k34 m x4 x5 = some q → VV w RX9 cX9_both 7 (some .int) rm_X9_both false (QM w K (some (.int q.1)) q.2 0 0) K 34 [some (.ref a0), none, none, some (.int x3), some (.int x4), some (.int x5), none] [] 0 0 m) {m : Mem} {x5 : Int32} {s0 : Int32} (hf : f_X9_both_91 K a0 x1 x2 x3 k34 m x5 s0 = some q) : VV w RX9 cX9_both 7 (some .int) rm_X9_both false (QM w K (some (.int q.1)) q.2 0 0) K 91 [some (.ref a0), none, none, some (.int x3), none, some (.int x5), none] [.int s0] 0 0 m := by
  unfold f_X9_both_91 at hf
  refine vv_iconst 92 (v := 0) dX9_both_91 rfl (by decide) ?_
  exact v_X9_both_92 t_a0 k34 hk34 hf

set_option maxHeartbeats 4000000 in
theorem v_X9_both_34B {w : Wo} {K : Kn} {a0 : Nat} {x1 : Int32} {x2 : Int32} {x3 : Int32} {q : (Int32 × Mem)} (t_a0 : K a0 = some (.inl 8)) (k34 : Mem → Int32 → Int32 → Option (Int32 × Mem)) (hk34 : ∀ (m : Mem) (x4 : Int32) (x5 : Int32), k34 m x4 x5 = some q → VV w RX9 cX9_both 7 (some .int) rm_X9_both false (QM w K (some (.int q.1)) q.2 0 0) K 34 [some (.ref a0), none, none, some (.int x3), some (.int x4), some (.int x5), none] [] 0 0 m) {m : Mem} {x4 : Int32} {x5 : Int32} (hf : f_X9_both_34B K a0 x1 x2 x3 k34 m x4 x5 = some q) : VV w RX9 cX9_both 7 (some .int) rm_X9_both false (QM w K (some (.int q.1)) q.2 0 0) K 34 [some (.ref a0), none, none, some (.int x3), some (.int x4), some (.int x5), none] [] 0 0 m := by
  unfold f_X9_both_34B at hf
  refine vv_iload 36 dX9_both_34 rfl rfl ?_
  refine vv_aload_n 37 dX9_both_36 rfl rfl ?_
  refine gf_RX9_382 40 dX9_both_37 rfl t_a0 ?_
  refine vv_icmp_ge 101 43 dX9_both_40 rfl (by decide) (fun c1 => ?_) (fun c1 => ?_)
  · rw [if_pos c1] at hf
    refine vv_iload 103 dX9_both_101 rfl rfl ?_
    obtain rfl := Option.some.inj hf
    exact vv_iret dX9_both_103 rfl
  · rw [if_neg c1] at hf
    refine vv_aload_n 44 dX9_both_43 rfl rfl ?_
    refine vv_aload_n 45 dX9_both_44 rfl rfl ?_
    obtain ⟨b2, g_b2, hf⟩ := bind_s hf
    have t_b2 := (ldA_spec g_b2).2
    refine gf_RX9_75 48 dX9_both_45 rfl t_a0 (ldA_spec g_b2).1 ?_
    refine vv_iload 50 dX9_both_48 rfl rfl ?_
    obtain ⟨r3, g_r3, hf⟩ := bind_s hf
    refine vv_lald 51 dX9_both_50 rfl t_b2 g_r3 ?_
    refine vv_l2i 52 dX9_both_51 rfl ?_
    obtain ⟨q4, g_q4, hf⟩ := bind_s hf
    refine vv_callV 55 (st := []) (As := [.int ((r3).toInt32)]) (stk2 := [.int q4]) (cl2 := 0) (sl2 := 0) dX9_both_52 rfl lk_RX9_328 w_1464 w_55 rfl t_a0 ⟨(Nat.le_of_ble_eq_true rfl), (Nat.le_of_ble_eq_true rfl)⟩ rfl rfl ⟨(Nat.le_of_ble_eq_true rfl), (Nat.le_of_ble_eq_true rfl)⟩ rfl (Nat.le_of_ble_eq_true rfl) rfl rfl rfl rfl (c_X9_placeOf t_a0 g_q4) ?_
    refine vv_istore 57 (L' := [some (.ref a0), none, none, some (.int x3), some (.int x4), some (.int x5), some (.int q4)]) dX9_both_55 rfl (Nat.le_of_ble_eq_true rfl) rfl ?_
    refine vv_iload 59 dX9_both_57 rfl rfl ?_
    refine vv_iload 61 dX9_both_59 rfl rfl ?_
    refine vv_iconst 62 (v := (-1)) dX9_both_61 rfl (by decide) ?_
    refine vv_icmp_eq 91 65 dX9_both_62 rfl (by decide) (fun c5 => ?_) (fun c5 => ?_)
    · rw [if_pos c5] at hf
      exact VV.lle (v_X9_both_91 t_a0 k34 hk34 hf) (lle_s (lle_s (lle_s (lle_s (lle_n (lle_s (lle_n lle_nil)))))))
    · rw [if_neg c5] at hf
      refine vv_iload_n 66 dX9_both_65 rfl rfl ?_
      refine vv_if_eq 87 69 dX9_both_66 rfl (by decide) (fun c6 => ?_) (fun c6 => ?_)
      · rw [if_pos c6] at hf
        exact VV.lle (v_X9_both_87 t_a0 k34 hk34 hf) (lle_s (lle_s (lle_s (lle_s (lle_n (lle_s (lle_n lle_nil)))))))
      · rw [if_neg c6] at hf
        refine vv_aload_n 70 dX9_both_69 rfl rfl ?_
        obtain ⟨b7, g_b7, hf⟩ := bind_s hf
        have t_b7 := (ldA_spec g_b7).2
        refine gf_RX9_69 73 dX9_both_70 rfl t_a0 (ldA_spec g_b7).1 ?_
        refine vv_iload 75 dX9_both_73 rfl rfl ?_
        obtain ⟨r8, g_r8, hf⟩ := bind_s hf
        refine vv_lald 76 dX9_both_75 rfl t_b7 g_r8 ?_
        refine vv_aload_n 77 dX9_both_76 rfl rfl ?_
        obtain ⟨b9, g_b9, hf⟩ := bind_s hf
        have t_b9 := (ldA_spec g_b9).2
        refine gf_RX9_78 80 dX9_both_77 rfl t_a0 (ldA_spec g_b9).1 ?_
        refine vv_iload 82 dX9_both_80 rfl rfl ?_
        obtain ⟨r10, g_r10, hf⟩ := bind_s hf
        refine vv_lald 83 dX9_both_82 rfl t_b9 g_r10 ?_
        refine vv_lcmp 84 dX9_both_83 rfl ?_
        refine vv_if_ne 91 87 dX9_both_84 rfl (by decide) (fun c11 => ?_) (fun c11 => ?_)
        · rw [if_pos c11] at hf
          exact VV.lle (v_X9_both_87 t_a0 k34 hk34 hf) (lle_s (lle_s (lle_s (lle_s (lle_n (lle_s (lle_n lle_nil)))))))
        · rw [if_neg c11] at hf
          exact VV.lle (v_X9_both_91 t_a0 k34 hk34 hf) (lle_s (lle_s (lle_s (lle_s (lle_n (lle_s (lle_n lle_nil)))))))

theorem v_X9_both_34 {w : Wo} {K : Kn} {a0 : Nat} {x1 : Int32} {x2 : Int32} {x3 : Int32} {q : (Int32 × Mem)} (t_a0 : K a0 = some (.inl 8)) : ∀ (n : Nat) (m : Mem) (x4 : Int32) (x5 : Int32), f_X9_both_34 K a0 x1 x2 x3 n m x4 x5 = some q → VV w RX9 cX9_both 7 (some .int) rm_X9_both false (QM w K (some (.int q.1)) q.2 0 0) K 34 [some (.ref a0), none, none, some (.int x3), some (.int x4), some (.int x5), none] [] 0 0 m := by
  intro n
  induction n with
  | zero => intro m x4 x5 hf; cases hf
  | succ n ih => intro m x4 x5 hf; exact v_X9_both_34B (a0 := a0) (x1 := x1) (x2 := x2) (x3 := x3) t_a0 (f_X9_both_34 K a0 x1 x2 x3 n) ih hf

set_option maxHeartbeats 4000000 in
theorem v_X9_both_0 {w : Wo} {K : Kn} {a0 : Nat} {x1 : Int32} {x2 : Int32} {x3 : Int32} {q : (Int32 × Mem)} (t_a0 : K a0 = some (.inl 8)) {m : Mem} (hf : f_X9_both K a0 x1 x2 x3 m = some q) : VV w RX9 cX9_both 7 (some .int) rm_X9_both false (QM w K (some (.int q.1)) q.2 0 0) K 0 [some (.ref a0), some (.int x1), some (.int x2), some (.int x3), none, none, none] [] 0 0 m := by
  unfold f_X9_both at hf
  refine vv_aload_n 1 dX9_both_0 rfl rfl ?_
  refine vv_iload_n 2 dX9_both_1 rfl rfl ?_
  refine vv_iload_n 3 dX9_both_2 rfl rfl ?_
  obtain ⟨q1, g_q1, hf⟩ := bind_s hf
  refine vv_callV 6 (st := []) (As := [.int x1, .int x2]) (stk2 := [.int q1]) (cl2 := 0) (sl2 := 0) dX9_both_3 rfl lk_RX9_385 w_1567 w_59 rfl t_a0 ⟨(Nat.le_of_ble_eq_true rfl), (Nat.le_of_ble_eq_true rfl)⟩ rfl rfl ⟨(Nat.le_of_ble_eq_true rfl), (Nat.le_of_ble_eq_true rfl)⟩ rfl (Nat.le_of_ble_eq_true rfl) rfl rfl rfl rfl (c_X9_areTwo t_a0 g_q1) ?_
  refine vv_if_eq 19 9 dX9_both_6 rfl (by decide) (fun c2 => ?_) (fun c2 => ?_)
  · rw [if_pos c2] at hf
    refine vv_bipush 21 (v := (-2)) dX9_both_19 rfl (by decide) ?_
    obtain rfl := Option.some.inj hf
    exact vv_iret dX9_both_21 rfl
  · rw [if_neg c2] at hf
    refine vv_iload_n 10 dX9_both_9 rfl rfl ?_
    refine vv_i2l 11 dX9_both_10 rfl ?_
    refine vv_lconst 12 (v := 0) dX9_both_11 rfl (by decide) ?_
    refine vv_lconst 13 (v := 1) dX9_both_12 rfl (by decide) ?_
    obtain ⟨q3, g_q3, hf⟩ := bind_s hf
    refine vv_callS 16 (st := []) (As := [.long ((x3).toInt64), .long (0 : Int64), .long (1 : Int64)]) (stk2 := [.int q3]) (cl2 := 0) (sl2 := 0) dX9_both_13 rfl lk_RX9_83 w_1206 ⟨(Nat.le_of_ble_eq_true rfl), (Nat.le_of_ble_eq_true rfl)⟩ rfl rfl ⟨(Nat.le_of_ble_eq_true rfl), (Nat.le_of_ble_eq_true rfl)⟩ rfl (Nat.le_of_ble_eq_true rfl) rfl rfl rfl rfl (c_X9_in g_q3) ?_
    refine vv_if_ne 22 19 dX9_both_16 rfl (by decide) (fun c4 => ?_) (fun c4 => ?_)
    · rw [if_pos c4] at hf
      refine vv_bipush 21 (v := (-2)) dX9_both_19 rfl (by decide) ?_
      obtain rfl := Option.some.inj hf
      exact vv_iret dX9_both_21 rfl
    · rw [if_neg c4] at hf
      refine vv_aload_n 23 dX9_both_22 rfl rfl ?_
      refine vv_iload_n 24 dX9_both_23 rfl rfl ?_
      refine vv_iload_n 25 dX9_both_24 rfl rfl ?_
      obtain ⟨q5, g_q5, hf⟩ := bind_s hf
      refine vv_callV 28 (st := []) (As := [.int x1, .int x2]) (stk2 := []) (cl2 := 0) (sl2 := 0) dX9_both_25 rfl lk_RX9_388 w_1571 w_60 rfl t_a0 ⟨(Nat.le_of_ble_eq_true rfl), (Nat.le_of_ble_eq_true rfl)⟩ rfl rfl ⟨(Nat.le_of_ble_eq_true rfl), (Nat.le_of_ble_eq_true rfl)⟩ rfl (Nat.le_of_ble_eq_true rfl) rfl rfl rfl rfl (c_X9_gathersTwo t_a0 g_q5) ?_
      refine vv_iconst 29 (v := 0) dX9_both_28 rfl (by decide) ?_
      refine vv_istore 31 (L' := [some (.ref a0), some (.int x1), some (.int x2), some (.int x3), some (.int (0 : Int32)), none, none]) dX9_both_29 rfl (Nat.le_of_ble_eq_true rfl) rfl ?_
      refine vv_iconst 32 (v := 0) dX9_both_31 rfl (by decide) ?_
      refine vv_istore 34 (L' := [some (.ref a0), some (.int x1), some (.int x2), some (.int x3), some (.int (0 : Int32)), some (.int (0 : Int32)), none]) dX9_both_32 rfl (Nat.le_of_ble_eq_true rfl) rfl ?_
      exact VV.lle (v_X9_both_34 t_a0 FU _ _ _ hf) (lle_s (lle_n (lle_n (lle_s (lle_s (lle_s (lle_s lle_nil)))))))

theorem c_X9_both {w : Wo} {K : Kn} {a0 : Nat} {x1 : Int32} {x2 : Int32} {x3 : Int32} {q : (Int32 × Mem)} {m : Mem} (t_a0 : K a0 = some (.inl 8)) (hf : F_X9_both K m a0 x1 x2 x3 = some q) : MM w K K yX9_both cX9_both 7 (some .int) rm_X9_both [.ref a0, .int x1, .int x2, .int x3] m (some (.int q.1)) q.2 0 0 :=
  mm_of (ini := false) (n := 3) (plainFor_of_name (by decide)) rfl (fun h => by first | rfl | cases h) (Nat.le_of_ble_eq_true rfl) rfl (v_X9_both_0 t_a0 hf)

set_option maxHeartbeats 4000000 in
theorem v_X9_differ_90 {w : Wo} {K : Kn} {a0 : Nat} {x1 : Int32} {x2 : Int32} {q : (Int32 × Mem)} (t_a0 : K a0 = some (.inl 8)) {m : Mem} {x3 : Int32} (hf : f_X9_differ_90 K a0 x1 x2 m x3 = some q) : VV w RX9 cX9_differ 4 (some .int) rm_X9_differ false (QM w K (some (.int q.1)) q.2 0 0) K 90 [some (.ref a0), none, none, some (.int x3)] [] 0 0 m := by
  unfold f_X9_differ_90 at hf
  refine vv_iload_n 91 dX9_differ_90 rfl rfl ?_
  refine vv_aload_n 92 dX9_differ_91 rfl rfl ?_
  refine gf_RX9_248 95 dX9_differ_92 rfl t_a0 ?_
  refine vv_icmp_ge 108 98 dX9_differ_95 rfl (by decide) (fun c1 => ?_) (fun c1 => ?_)
  · rw [if_pos c1] at hf
    refine vv_iload_n 109 dX9_differ_108 rfl rfl ?_
    refine vv_aload_n 110 dX9_differ_109 rfl rfl ?_
    refine gf_RX9_382 113 dX9_differ_110 rfl t_a0 ?_
    refine vv_icmp_ge 126 116 dX9_differ_113 rfl (by decide) (fun c2 => ?_) (fun c2 => ?_)
    · rw [if_pos c2] at hf
      refine vv_iconst 127 (v := (-1)) dX9_differ_126 rfl (by decide) ?_
      obtain rfl := Option.some.inj hf
      exact vv_iret dX9_differ_127 rfl
    · rw [if_neg c2] at hf
      refine vv_aload_n 117 dX9_differ_116 rfl rfl ?_
      obtain ⟨b3, g_b3, hf⟩ := bind_s hf
      have t_b3 := (ldA_spec g_b3).2
      refine gf_RX9_75 120 dX9_differ_117 rfl t_a0 (ldA_spec g_b3).1 ?_
      refine vv_iload_n 121 dX9_differ_120 rfl rfl ?_
      obtain ⟨r4, g_r4, hf⟩ := bind_s hf
      refine vv_lald 122 dX9_differ_121 rfl t_b3 g_r4 ?_
      refine vv_l2i 123 dX9_differ_122 rfl ?_
      refine vv_goto 127 dX9_differ_123 (by decide) ?_
      obtain rfl := Option.some.inj hf
      exact vv_iret dX9_differ_127 rfl
  · rw [if_neg c1] at hf
    refine vv_aload_n 99 dX9_differ_98 rfl rfl ?_
    obtain ⟨b5, g_b5, hf⟩ := bind_s hf
    have t_b5 := (ldA_spec g_b5).2
    refine gf_RX9_66 102 dX9_differ_99 rfl t_a0 (ldA_spec g_b5).1 ?_
    refine vv_iload_n 103 dX9_differ_102 rfl rfl ?_
    obtain ⟨r6, g_r6, hf⟩ := bind_s hf
    refine vv_lald 104 dX9_differ_103 rfl t_b5 g_r6 ?_
    refine vv_l2i 105 dX9_differ_104 rfl ?_
    refine vv_goto 127 dX9_differ_105 (by decide) ?_
    obtain rfl := Option.some.inj hf
    exact vv_iret dX9_differ_127 rfl

set_option maxHeartbeats 4000000 in
theorem v_X9_differ_74 {w : Wo} {K : Kn} {a0 : Nat} {x1 : Int32} {x2 : Int32} {q : (Int32 × Mem)} (t_a0 : K a0 = some (.inl 8)) {m : Mem} {x3 : Int32} (hf : f_X9_differ_74 K a0 x1 x2 m x3 = some q) : VV w RX9 cX9_differ 4 (some .int) rm_X9_differ false (QM w K (some (.int q.1)) q.2 0 0) K 74 [some (.ref a0), none, none, some (.int x3)] [] 0 0 m := by
  unfold f_X9_differ_74 at hf
  refine vv_iload_n 75 dX9_differ_74 rfl rfl ?_
  refine vv_aload_n 76 dX9_differ_75 rfl rfl ?_
  refine gf_RX9_248 79 dX9_differ_76 rfl t_a0 ?_
  refine vv_icmp_eq 90 82 dX9_differ_79 rfl (by decide) (fun c1 => ?_) (fun c1 => ?_)
  · rw [if_pos c1] at hf
    exact v_X9_differ_90 t_a0 hf
  · rw [if_neg c1] at hf
    refine vv_iload_n 83 dX9_differ_82 rfl rfl ?_
    refine vv_aload_n 84 dX9_differ_83 rfl rfl ?_
    refine gf_RX9_382 87 dX9_differ_84 rfl t_a0 ?_
    refine vv_icmp_ne 128 90 dX9_differ_87 rfl (by decide) (fun c2 => ?_) (fun c2 => ?_)
    · rw [if_pos c2] at hf
      exact v_X9_differ_90 t_a0 hf
    · rw [if_neg c2] at hf
      refine vv_aload_n 129 dX9_differ_128 rfl rfl ?_
      obtain ⟨b3, g_b3, hf⟩ := bind_s hf
      have t_b3 := (ldA_spec g_b3).2
      refine gf_RX9_66 132 dX9_differ_129 rfl t_a0 (ldA_spec g_b3).1 ?_
      refine vv_iload_n 133 dX9_differ_132 rfl rfl ?_
      obtain ⟨r4, g_r4, hf⟩ := bind_s hf
      refine vv_lald 134 dX9_differ_133 rfl t_b3 g_r4 ?_
      refine vv_aload_n 135 dX9_differ_134 rfl rfl ?_
      obtain ⟨b5, g_b5, hf⟩ := bind_s hf
      have t_b5 := (ldA_spec g_b5).2
      refine gf_RX9_75 138 dX9_differ_135 rfl t_a0 (ldA_spec g_b5).1 ?_
      refine vv_iload_n 139 dX9_differ_138 rfl rfl ?_
      obtain ⟨r6, g_r6, hf⟩ := bind_s hf
      refine vv_lald 140 dX9_differ_139 rfl t_b5 g_r6 ?_
      obtain ⟨q7, g_q7, hf⟩ := bind_s hf
      refine vv_callS 143 (st := []) (As := [.long r4, .long r6]) (stk2 := [.long q7]) (cl2 := 0) (sl2 := 0) dX9_differ_140 rfl lk_RX9_391 w_918 ⟨(Nat.le_of_ble_eq_true rfl), (Nat.le_of_ble_eq_true rfl)⟩ rfl rfl ⟨(Nat.le_of_ble_eq_true rfl), (Nat.le_of_ble_eq_true rfl)⟩ rfl (Nat.le_of_ble_eq_true rfl) rfl rfl rfl rfl (c_J9_min_f86c9 g_q7) ?_
      refine vv_l2i 144 dX9_differ_143 rfl ?_
      obtain rfl := Option.some.inj hf
      exact vv_iret dX9_differ_144 rfl

set_option maxHeartbeats 4000000 in
theorem v_X9_differ_20B {w : Wo} {K : Kn} {a0 : Nat} {x1 : Int32} {x2 : Int32} {q : (Int32 × Mem)} (t_a0 : K a0 = some (.inl 8)) (k20 : Mem → Int32 → Option (Int32 × Mem)) (hk20 : ∀ (m : Mem) (x3 : Int32), k20 m x3 = some q → VV w RX9 cX9_differ 4 (some .int) rm_X9_differ false (QM w K (some (.int q.1)) q.2 0 0) K 20 [some (.ref a0), none, none, some (.int x3)] [] 0 0 m) {m : Mem} {x3 : Int32} (hf : f_X9_differ_20B K a0 x1 x2 k20 m x3 = some q) : VV w RX9 cX9_differ 4 (some .int) rm_X9_differ false (QM w K (some (.int q.1)) q.2 0 0) K 20 [some (.ref a0), none, none, some (.int x3)] [] 0 0 m := by
  unfold f_X9_differ_20B at hf
  refine vv_iload_n 21 dX9_differ_20 rfl rfl ?_
  refine vv_aload_n 22 dX9_differ_21 rfl rfl ?_
  refine gf_RX9_248 25 dX9_differ_22 rfl t_a0 ?_
  refine vv_icmp_ge 74 28 dX9_differ_25 rfl (by decide) (fun c1 => ?_) (fun c1 => ?_)
  · rw [if_pos c1] at hf
    exact v_X9_differ_74 t_a0 hf
  · rw [if_neg c1] at hf
    refine vv_iload_n 29 dX9_differ_28 rfl rfl ?_
    refine vv_aload_n 30 dX9_differ_29 rfl rfl ?_
    refine gf_RX9_382 33 dX9_differ_30 rfl t_a0 ?_
    refine vv_icmp_ge 74 36 dX9_differ_33 rfl (by decide) (fun c2 => ?_) (fun c2 => ?_)
    · rw [if_pos c2] at hf
      exact v_X9_differ_74 t_a0 hf
    · rw [if_neg c2] at hf
      refine vv_aload_n 37 dX9_differ_36 rfl rfl ?_
      obtain ⟨b3, g_b3, hf⟩ := bind_s hf
      have t_b3 := (ldA_spec g_b3).2
      refine gf_RX9_66 40 dX9_differ_37 rfl t_a0 (ldA_spec g_b3).1 ?_
      refine vv_iload_n 41 dX9_differ_40 rfl rfl ?_
      obtain ⟨r4, g_r4, hf⟩ := bind_s hf
      refine vv_lald 42 dX9_differ_41 rfl t_b3 g_r4 ?_
      refine vv_aload_n 43 dX9_differ_42 rfl rfl ?_
      obtain ⟨b5, g_b5, hf⟩ := bind_s hf
      have t_b5 := (ldA_spec g_b5).2
      refine gf_RX9_75 46 dX9_differ_43 rfl t_a0 (ldA_spec g_b5).1 ?_
      refine vv_iload_n 47 dX9_differ_46 rfl rfl ?_
      obtain ⟨r6, g_r6, hf⟩ := bind_s hf
      refine vv_lald 48 dX9_differ_47 rfl t_b5 g_r6 ?_
      refine vv_lcmp 49 dX9_differ_48 rfl ?_
      refine vv_if_ne 74 52 dX9_differ_49 rfl (by decide) (fun c7 => ?_) (fun c7 => ?_)
      · rw [if_pos c7] at hf
        refine vv_aload_n 53 dX9_differ_52 rfl rfl ?_
        obtain ⟨b8, g_b8, hf⟩ := bind_s hf
        have t_b8 := (ldA_spec g_b8).2
        refine gf_RX9_69 56 dX9_differ_53 rfl t_a0 (ldA_spec g_b8).1 ?_
        refine vv_iload_n 57 dX9_differ_56 rfl rfl ?_
        obtain ⟨r9, g_r9, hf⟩ := bind_s hf
        refine vv_lald 58 dX9_differ_57 rfl t_b8 g_r9 ?_
        refine vv_aload_n 59 dX9_differ_58 rfl rfl ?_
        obtain ⟨b10, g_b10, hf⟩ := bind_s hf
        have t_b10 := (ldA_spec g_b10).2
        refine gf_RX9_78 62 dX9_differ_59 rfl t_a0 (ldA_spec g_b10).1 ?_
        refine vv_iload_n 63 dX9_differ_62 rfl rfl ?_
        obtain ⟨r11, g_r11, hf⟩ := bind_s hf
        refine vv_lald 64 dX9_differ_63 rfl t_b10 g_r11 ?_
        refine vv_lcmp 65 dX9_differ_64 rfl ?_
        refine vv_if_ne 74 68 dX9_differ_65 rfl (by decide) (fun c12 => ?_) (fun c12 => ?_)
        · rw [if_pos c12] at hf
          obtain ⟨z13, e_z13, hf⟩ := bd_s hf
          refine vv_iincE (q := 71) (v := z13) (c := 1) (L' := [some (.ref a0), none, none, some (.int z13)]) e_z13 dX9_differ_68 rfl rfl (by decide) (Nat.le_of_ble_eq_true rfl) rfl ?_
          refine vv_goto 20 dX9_differ_71 (by decide) ?_
          exact hk20 _ _ hf
        · rw [if_neg c12] at hf
          exact v_X9_differ_74 t_a0 hf
      · rw [if_neg c7] at hf
        exact v_X9_differ_74 t_a0 hf

theorem v_X9_differ_20 {w : Wo} {K : Kn} {a0 : Nat} {x1 : Int32} {x2 : Int32} {q : (Int32 × Mem)} (t_a0 : K a0 = some (.inl 8)) : ∀ (n : Nat) (m : Mem) (x3 : Int32), f_X9_differ_20 K a0 x1 x2 n m x3 = some q → VV w RX9 cX9_differ 4 (some .int) rm_X9_differ false (QM w K (some (.int q.1)) q.2 0 0) K 20 [some (.ref a0), none, none, some (.int x3)] [] 0 0 m := by
  intro n
  induction n with
  | zero => intro m x3 hf; cases hf
  | succ n ih => intro m x3 hf; exact v_X9_differ_20B (a0 := a0) (x1 := x1) (x2 := x2) t_a0 (f_X9_differ_20 K a0 x1 x2 n) ih hf

set_option maxHeartbeats 4000000 in
theorem v_X9_differ_0 {w : Wo} {K : Kn} {a0 : Nat} {x1 : Int32} {x2 : Int32} {q : (Int32 × Mem)} (t_a0 : K a0 = some (.inl 8)) {m : Mem} (hf : f_X9_differ K a0 x1 x2 m = some q) : VV w RX9 cX9_differ 4 (some .int) rm_X9_differ false (QM w K (some (.int q.1)) q.2 0 0) K 0 [some (.ref a0), some (.int x1), some (.int x2), none] [] 0 0 m := by
  unfold f_X9_differ at hf
  refine vv_aload_n 1 dX9_differ_0 rfl rfl ?_
  refine vv_iload_n 2 dX9_differ_1 rfl rfl ?_
  refine vv_iload_n 3 dX9_differ_2 rfl rfl ?_
  obtain ⟨q1, g_q1, hf⟩ := bind_s hf
  refine vv_callV 6 (st := []) (As := [.int x1, .int x2]) (stk2 := [.int q1]) (cl2 := 0) (sl2 := 0) dX9_differ_3 rfl lk_RX9_385 w_1567 w_59 rfl t_a0 ⟨(Nat.le_of_ble_eq_true rfl), (Nat.le_of_ble_eq_true rfl)⟩ rfl rfl ⟨(Nat.le_of_ble_eq_true rfl), (Nat.le_of_ble_eq_true rfl)⟩ rfl (Nat.le_of_ble_eq_true rfl) rfl rfl rfl rfl (c_X9_areTwo t_a0 g_q1) ?_
  refine vv_if_ne 12 9 dX9_differ_6 rfl (by decide) (fun c2 => ?_) (fun c2 => ?_)
  · rw [if_pos c2] at hf
    refine vv_bipush 11 (v := (-2)) dX9_differ_9 rfl (by decide) ?_
    obtain rfl := Option.some.inj hf
    exact vv_iret dX9_differ_11 rfl
  · rw [if_neg c2] at hf
    refine vv_aload_n 13 dX9_differ_12 rfl rfl ?_
    refine vv_iload_n 14 dX9_differ_13 rfl rfl ?_
    refine vv_iload_n 15 dX9_differ_14 rfl rfl ?_
    obtain ⟨q3, g_q3, hf⟩ := bind_s hf
    refine vv_callV 18 (st := []) (As := [.int x1, .int x2]) (stk2 := []) (cl2 := 0) (sl2 := 0) dX9_differ_15 rfl lk_RX9_388 w_1571 w_60 rfl t_a0 ⟨(Nat.le_of_ble_eq_true rfl), (Nat.le_of_ble_eq_true rfl)⟩ rfl rfl ⟨(Nat.le_of_ble_eq_true rfl), (Nat.le_of_ble_eq_true rfl)⟩ rfl (Nat.le_of_ble_eq_true rfl) rfl rfl rfl rfl (c_X9_gathersTwo t_a0 g_q3) ?_
    refine vv_iconst 19 (v := 0) dX9_differ_18 rfl (by decide) ?_
    refine vv_istore_n 20 (L' := [some (.ref a0), some (.int x1), some (.int x2), some (.int (0 : Int32))]) dX9_differ_19 rfl (Nat.le_of_ble_eq_true rfl) rfl ?_
    exact VV.lle (v_X9_differ_20 t_a0 FU _ _ hf) (lle_s (lle_n (lle_n (lle_s lle_nil))))

theorem c_X9_differ {w : Wo} {K : Kn} {a0 : Nat} {x1 : Int32} {x2 : Int32} {q : (Int32 × Mem)} {m : Mem} (t_a0 : K a0 = some (.inl 8)) (hf : F_X9_differ K m a0 x1 x2 = some q) : MM w K K yX9_differ cX9_differ 4 (some .int) rm_X9_differ [.ref a0, .int x1, .int x2] m (some (.int q.1)) q.2 0 0 :=
  mm_of (ini := false) (n := 1) (plainFor_of_name (by decide)) rfl (fun h => by first | rfl | cases h) (Nat.le_of_ble_eq_true rfl) rfl (v_X9_differ_0 t_a0 hf)

set_option maxHeartbeats 4000000 in
theorem v_X9_best_75 {w : Wo} {K : Kn} {a0 : Nat} {x1 : Int32} {q : (Int32 × Mem)} (t_a0 : K a0 = some (.inl 8)) (k35 : Mem → Int32 → Int32 → Int32 → Option (Int32 × Mem)) (hk35 : ∀ (m : Mem) (x2 : Int32) (x3 : Int32) (x4 : Int32), k35 m x2 x3 x4 = some q → VV w RX9 cX9_best 5 (some .int) rm_X9_best false (QM w K (some (.int q.1)) q.2 0 0) K 35 [some (.ref a0), none, some (.int x2), some (.int x3), some (.int x4)] [] 0 0 m) {m : Mem} {x2 : Int32} {x3 : Int32} {x4 : Int32} (hf : f_X9_best_75 K a0 x1 k35 m x2 x3 x4 = some q) : VV w RX9 cX9_best 5 (some .int) rm_X9_best false (QM w K (some (.int q.1)) q.2 0 0) K 75 [some (.ref a0), none, some (.int x2), some (.int x3), some (.int x4)] [] 0 0 m := by
  unfold f_X9_best_75 at hf
  obtain ⟨z1, e_z1, hf⟩ := bd_s hf
  refine vv_iincE (q := 78) (v := z1) (c := 1) (L' := [some (.ref a0), none, some (.int x2), some (.int x3), some (.int z1)]) e_z1 dX9_best_75 rfl rfl (by decide) (Nat.le_of_ble_eq_true rfl) rfl ?_
  refine vv_goto 35 dX9_best_78 (by decide) ?_
  exact hk35 _ _ _ _ hf

set_option maxHeartbeats 4000000 in
theorem v_X9_best_66 {w : Wo} {K : Kn} {a0 : Nat} {x1 : Int32} {q : (Int32 × Mem)} (t_a0 : K a0 = some (.inl 8)) (k35 : Mem → Int32 → Int32 → Int32 → Option (Int32 × Mem)) (hk35 : ∀ (m : Mem) (x2 : Int32) (x3 : Int32) (x4 : Int32), k35 m x2 x3 x4 = some q → VV w RX9 cX9_best 5 (some .int) rm_X9_best false (QM w K (some (.int q.1)) q.2 0 0) K 35 [some (.ref a0), none, some (.int x2), some (.int x3), some (.int x4)] [] 0 0 m) {m : Mem} {x4 : Int32} (hf : f_X9_best_66 K a0 x1 k35 m x4 = some q) : VV w RX9 cX9_best 5 (some .int) rm_X9_best false (QM w K (some (.int q.1)) q.2 0 0) K 66 [some (.ref a0), none, none, none, some (.int x4)] [] 0 0 m := by
  unfold f_X9_best_66 at hf
  refine vv_iload 68 dX9_best_66 rfl rfl ?_
  refine vv_istore_n 69 (L' := [some (.ref a0), none, some (.int x4), none, some (.int x4)]) dX9_best_68 rfl (Nat.le_of_ble_eq_true rfl) rfl ?_
  refine vv_aload_n 70 dX9_best_69 rfl rfl ?_
  refine vv_iconst 71 (v := 4) dX9_best_70 rfl (by decide) ?_
  obtain ⟨q1, g_q1, hf⟩ := bind_s hf
  refine vv_callV 74 (st := []) (As := [.int (4 : Int32)]) (stk2 := [.int q1]) (cl2 := 0) (sl2 := 0) dX9_best_71 rfl lk_RX9_303 w_1394 w_50 rfl t_a0 ⟨(Nat.le_of_ble_eq_true rfl), (Nat.le_of_ble_eq_true rfl)⟩ rfl rfl ⟨(Nat.le_of_ble_eq_true rfl), (Nat.le_of_ble_eq_true rfl)⟩ rfl (Nat.le_of_ble_eq_true rfl) rfl rfl rfl rfl (c_X9_bytesOf t_a0 g_q1) ?_
  refine vv_istore_n 75 (L' := [some (.ref a0), none, some (.int x4), some (.int q1), some (.int x4)]) dX9_best_74 rfl (Nat.le_of_ble_eq_true rfl) rfl ?_
  exact v_X9_best_75 t_a0 k35 hk35 hf

set_option maxHeartbeats 4000000 in
theorem v_X9_best_35B {w : Wo} {K : Kn} {a0 : Nat} {x1 : Int32} {q : (Int32 × Mem)} (t_a0 : K a0 = some (.inl 8)) (k35 : Mem → Int32 → Int32 → Int32 → Option (Int32 × Mem)) (hk35 : ∀ (m : Mem) (x2 : Int32) (x3 : Int32) (x4 : Int32), k35 m x2 x3 x4 = some q → VV w RX9 cX9_best 5 (some .int) rm_X9_best false (QM w K (some (.int q.1)) q.2 0 0) K 35 [some (.ref a0), none, some (.int x2), some (.int x3), some (.int x4)] [] 0 0 m) {m : Mem} {x2 : Int32} {x3 : Int32} {x4 : Int32} (hf : f_X9_best_35B K a0 x1 k35 m x2 x3 x4 = some q) : VV w RX9 cX9_best 5 (some .int) rm_X9_best false (QM w K (some (.int q.1)) q.2 0 0) K 35 [some (.ref a0), none, some (.int x2), some (.int x3), some (.int x4)] [] 0 0 m := by
  unfold f_X9_best_35B at hf
  refine vv_iload 37 dX9_best_35 rfl rfl ?_
  refine vv_sipush 40 (v := 200) dX9_best_37 rfl (by decide) ?_
  refine vv_icmp_gt 81 43 dX9_best_40 rfl (by decide) (fun c1 => ?_) (fun c1 => ?_)
  · rw [if_pos c1] at hf
    refine vv_iload_n 82 dX9_best_81 rfl rfl ?_
    obtain rfl := Option.some.inj hf
    exact vv_iret dX9_best_82 rfl
  · rw [if_neg c1] at hf
    refine vv_aload_n 44 dX9_best_43 rfl rfl ?_
    refine vv_iload 46 dX9_best_44 rfl rfl ?_
    obtain ⟨q2, g_q2, hf⟩ := bind_s hf
    refine vv_callV 49 (st := []) (As := [.int x4]) (stk2 := [.int q2.1]) (cl2 := 0) (sl2 := 0) dX9_best_46 rfl lk_RX9_272 w_1381 w_48 rfl t_a0 ⟨(Nat.le_of_ble_eq_true rfl), (Nat.le_of_ble_eq_true rfl)⟩ rfl rfl ⟨(Nat.le_of_ble_eq_true rfl), (Nat.le_of_ble_eq_true rfl)⟩ rfl (Nat.le_of_ble_eq_true rfl) rfl rfl rfl rfl (c_X9_packs t_a0 g_q2) ?_
    refine vv_if_eq 75 52 dX9_best_49 rfl (by decide) (fun c3 => ?_) (fun c3 => ?_)
    · rw [if_pos c3] at hf
      exact v_X9_best_75 t_a0 k35 hk35 hf
    · rw [if_neg c3] at hf
      refine vv_iload_n 53 dX9_best_52 rfl rfl ?_
      refine vv_iconst 54 (v := (-1)) dX9_best_53 rfl (by decide) ?_
      refine vv_icmp_eq 66 57 dX9_best_54 rfl (by decide) (fun c4 => ?_) (fun c4 => ?_)
      · rw [if_pos c4] at hf
        exact VV.lle (v_X9_best_66 t_a0 k35 hk35 hf) (lle_s (lle_s (lle_n (lle_n (lle_s lle_nil)))))
      · rw [if_neg c4] at hf
        refine vv_aload_n 58 dX9_best_57 rfl rfl ?_
        refine vv_iconst 59 (v := 4) dX9_best_58 rfl (by decide) ?_
        obtain ⟨q5, g_q5, hf⟩ := bind_s hf
        refine vv_callV 62 (st := []) (As := [.int (4 : Int32)]) (stk2 := [.int q5]) (cl2 := 0) (sl2 := 0) dX9_best_59 rfl lk_RX9_303 w_1394 w_50 rfl t_a0 ⟨(Nat.le_of_ble_eq_true rfl), (Nat.le_of_ble_eq_true rfl)⟩ rfl rfl ⟨(Nat.le_of_ble_eq_true rfl), (Nat.le_of_ble_eq_true rfl)⟩ rfl (Nat.le_of_ble_eq_true rfl) rfl rfl rfl rfl (c_X9_bytesOf t_a0 g_q5) ?_
        refine vv_iload_n 63 dX9_best_62 rfl rfl ?_
        refine vv_icmp_ge 75 66 dX9_best_63 rfl (by decide) (fun c6 => ?_) (fun c6 => ?_)
        · rw [if_pos c6] at hf
          exact v_X9_best_75 t_a0 k35 hk35 hf
        · rw [if_neg c6] at hf
          exact VV.lle (v_X9_best_66 t_a0 k35 hk35 hf) (lle_s (lle_s (lle_n (lle_n (lle_s lle_nil)))))

theorem v_X9_best_35 {w : Wo} {K : Kn} {a0 : Nat} {x1 : Int32} {q : (Int32 × Mem)} (t_a0 : K a0 = some (.inl 8)) : ∀ (n : Nat) (m : Mem) (x2 : Int32) (x3 : Int32) (x4 : Int32), f_X9_best_35 K a0 x1 n m x2 x3 x4 = some q → VV w RX9 cX9_best 5 (some .int) rm_X9_best false (QM w K (some (.int q.1)) q.2 0 0) K 35 [some (.ref a0), none, some (.int x2), some (.int x3), some (.int x4)] [] 0 0 m := by
  intro n
  induction n with
  | zero => intro m x2 x3 x4 hf; cases hf
  | succ n ih => intro m x2 x3 x4 hf; exact v_X9_best_35B (a0 := a0) (x1 := x1) t_a0 (f_X9_best_35 K a0 x1 n) ih hf

set_option maxHeartbeats 4000000 in
theorem v_X9_best_0 {w : Wo} {K : Kn} {a0 : Nat} {x1 : Int32} {q : (Int32 × Mem)} (t_a0 : K a0 = some (.inl 8)) {m : Mem} (hf : f_X9_best K a0 x1 m = some q) : VV w RX9 cX9_best 5 (some .int) rm_X9_best false (QM w K (some (.int q.1)) q.2 0 0) K 0 [some (.ref a0), some (.int x1), none, none, none] [] 0 0 m := by
  unfold f_X9_best at hf
  refine vv_aload_n 1 dX9_best_0 rfl rfl ?_
  refine vv_iload_n 2 dX9_best_1 rfl rfl ?_
  obtain ⟨q1, g_q1, hf⟩ := bind_s hf
  refine vv_callV 5 (st := []) (As := [.int x1]) (stk2 := [.int q1]) (cl2 := 0) (sl2 := 0) dX9_best_2 rfl lk_RX9_87 w_1220 w_21 rfl t_a0 ⟨(Nat.le_of_ble_eq_true rfl), (Nat.le_of_ble_eq_true rfl)⟩ rfl rfl ⟨(Nat.le_of_ble_eq_true rfl), (Nat.le_of_ble_eq_true rfl)⟩ rfl (Nat.le_of_ble_eq_true rfl) rfl rfl rfl rfl (c_X9_isSeries t_a0 g_q1) ?_
  refine vv_if_ne 11 8 dX9_best_5 rfl (by decide) (fun c2 => ?_) (fun c2 => ?_)
  · rw [if_pos c2] at hf
    refine vv_bipush 10 (v := (-2)) dX9_best_8 rfl (by decide) ?_
    obtain rfl := Option.some.inj hf
    exact vv_iret dX9_best_10 rfl
  · rw [if_neg c2] at hf
    refine vv_aload_n 12 dX9_best_11 rfl rfl ?_
    refine vv_iload_n 13 dX9_best_12 rfl rfl ?_
    obtain ⟨q3, g_q3, hf⟩ := bind_s hf
    refine vv_callV 16 (st := []) (As := [.int x1]) (stk2 := [.int q3.1]) (cl2 := 0) (sl2 := 0) dX9_best_13 rfl lk_RX9_294 w_1361 w_43 rfl t_a0 ⟨(Nat.le_of_ble_eq_true rfl), (Nat.le_of_ble_eq_true rfl)⟩ rfl rfl ⟨(Nat.le_of_ble_eq_true rfl), (Nat.le_of_ble_eq_true rfl)⟩ rfl (Nat.le_of_ble_eq_true rfl) rfl rfl rfl rfl (c_X9_hasBroken t_a0 g_q3) ?_
    refine vv_if_eq 22 19 dX9_best_16 rfl (by decide) (fun c4 => ?_) (fun c4 => ?_)
    · rw [if_pos c4] at hf
      refine vv_aload_n 23 dX9_best_22 rfl rfl ?_
      refine vv_iload_n 24 dX9_best_23 rfl rfl ?_
      obtain ⟨q5, g_q5, hf⟩ := bind_s hf
      refine vv_callV 27 (st := []) (As := [.int x1]) (stk2 := []) (cl2 := 0) (sl2 := 0) dX9_best_24 rfl lk_RX9_297 w_1369 w_45 rfl t_a0 ⟨(Nat.le_of_ble_eq_true rfl), (Nat.le_of_ble_eq_true rfl)⟩ rfl rfl ⟨(Nat.le_of_ble_eq_true rfl), (Nat.le_of_ble_eq_true rfl)⟩ rfl (Nat.le_of_ble_eq_true rfl) rfl rfl rfl rfl (c_X9_gathers t_a0 g_q5) ?_
      refine vv_iconst 28 (v := (-1)) dX9_best_27 rfl (by decide) ?_
      refine vv_istore_n 29 (L' := [some (.ref a0), some (.int x1), some (.int (-1 : Int32)), none, none]) dX9_best_28 rfl (Nat.le_of_ble_eq_true rfl) rfl ?_
      refine vv_iconst 30 (v := 0) dX9_best_29 rfl (by decide) ?_
      refine vv_istore_n 31 (L' := [some (.ref a0), some (.int x1), some (.int (-1 : Int32)), some (.int (0 : Int32)), none]) dX9_best_30 rfl (Nat.le_of_ble_eq_true rfl) rfl ?_
      refine vv_bipush 33 (v := 24) dX9_best_31 rfl (by decide) ?_
      refine vv_istore 35 (L' := [some (.ref a0), some (.int x1), some (.int (-1 : Int32)), some (.int (0 : Int32)), some (.int (24 : Int32))]) dX9_best_33 rfl (Nat.le_of_ble_eq_true rfl) rfl ?_
      exact VV.lle (v_X9_best_35 t_a0 FU _ _ _ _ hf) (lle_s (lle_n (lle_s (lle_s (lle_s lle_nil)))))
    · rw [if_neg c4] at hf
      refine vv_bipush 21 (v := (-6)) dX9_best_19 rfl (by decide) ?_
      obtain rfl := Option.some.inj hf
      exact vv_iret dX9_best_21 rfl

theorem c_X9_best {w : Wo} {K : Kn} {a0 : Nat} {x1 : Int32} {q : (Int32 × Mem)} {m : Mem} (t_a0 : K a0 = some (.inl 8)) (hf : F_X9_best K m a0 x1 = some q) : MM w K K yX9_best cX9_best 5 (some .int) rm_X9_best [.ref a0, .int x1] m (some (.int q.1)) q.2 0 0 :=
  mm_of (ini := false) (n := 3) (plainFor_of_name (by decide)) rfl (fun h => by first | rfl | cases h) (Nat.le_of_ble_eq_true rfl) rfl (v_X9_best_0 t_a0 hf)

set_option maxHeartbeats 4000000 in
theorem v_X9_thin_118 {w : Wo} {K : Kn} {a0 : Nat} {x1 : Int32} {x2 : Int32} {q : (Int32 × Mem)} (t_a0 : K a0 = some (.inl 8)) (k50 : Mem → Int32 → Int32 → Int32 → Option (Int32 × Mem)) (hk50 : ∀ (m : Mem) (x3 : Int32) (x4 : Int32) (x5 : Int32), k50 m x3 x4 x5 = some q → VV w RX9 cX9_thin 6 (some .int) rm_X9_thin false (QM w K (some (.int q.1)) q.2 0 0) K 50 [some (.ref a0), some (.int x1), some (.int x2), some (.int x3), some (.int x4), some (.int x5)] [] 0 0 m) {m : Mem} {x3 : Int32} {x4 : Int32} {x5 : Int32} (hf : f_X9_thin_118 K a0 x1 x2 k50 m x3 x4 x5 = some q) : VV w RX9 cX9_thin 6 (some .int) rm_X9_thin false (QM w K (some (.int q.1)) q.2 0 0) K 118 [some (.ref a0), some (.int x1), some (.int x2), some (.int x3), some (.int x4), some (.int x5)] [] 0 0 m := by
  unfold f_X9_thin_118 at hf
  obtain ⟨z1, e_z1, hf⟩ := bd_s hf
  refine vv_iincE (q := 121) (v := z1) (c := 1) (L' := [some (.ref a0), some (.int x1), some (.int x2), some (.int x3), some (.int x4), some (.int z1)]) e_z1 dX9_thin_118 rfl rfl (by decide) (Nat.le_of_ble_eq_true rfl) rfl ?_
  refine vv_goto 50 dX9_thin_121 (by decide) ?_
  exact hk50 _ _ _ _ hf

set_option maxHeartbeats 4000000 in
theorem v_X9_thin_87 {w : Wo} {K : Kn} {a0 : Nat} {x1 : Int32} {x2 : Int32} {q : (Int32 × Mem)} (t_a0 : K a0 = some (.inl 8)) (k50 : Mem → Int32 → Int32 → Int32 → Option (Int32 × Mem)) (hk50 : ∀ (m : Mem) (x3 : Int32) (x4 : Int32) (x5 : Int32), k50 m x3 x4 x5 = some q → VV w RX9 cX9_thin 6 (some .int) rm_X9_thin false (QM w K (some (.int q.1)) q.2 0 0) K 50 [some (.ref a0), some (.int x1), some (.int x2), some (.int x3), some (.int x4), some (.int x5)] [] 0 0 m) {m : Mem} {x3 : Int32} {x4 : Int32} {x5 : Int32} (hf : f_X9_thin_87 K a0 x1 x2 k50 m x3 x4 x5 = some q) : VV w RX9 cX9_thin 6 (some .int) rm_X9_thin false (QM w K (some (.int q.1)) q.2 0 0) K 87 [some (.ref a0), some (.int x1), some (.int x2), some (.int x3), some (.int x4), some (.int x5)] [] 0 0 m := by
  unfold f_X9_thin_87 at hf
  refine vv_aload_n 88 dX9_thin_87 rfl rfl ?_
  obtain ⟨b1, g_b1, hf⟩ := bind_s hf
  have t_b1 := (ldA_spec g_b1).2
  refine gf_RX9_66 91 dX9_thin_88 rfl t_a0 (ldA_spec g_b1).1 ?_
  refine vv_iload 93 dX9_thin_91 rfl rfl ?_
  refine vv_aload_n 94 dX9_thin_93 rfl rfl ?_
  obtain ⟨b2, g_b2, hf⟩ := bind_s hf
  have t_b2 := (ldA_spec g_b2).2
  refine gf_RX9_66 97 dX9_thin_94 rfl t_a0 (ldA_spec g_b2).1 ?_
  refine vv_iload 99 dX9_thin_97 rfl rfl ?_
  obtain ⟨r3, g_r3, hf⟩ := bind_s hf
  refine vv_lald 100 dX9_thin_99 rfl t_b2 g_r3 ?_
  obtain ⟨m4, g_m4, hf⟩ := bind_s hf
  refine vv_last 101 dX9_thin_100 rfl t_b1 g_m4 ?_
  refine vv_aload_n 102 dX9_thin_101 rfl rfl ?_
  obtain ⟨b5, g_b5, hf⟩ := bind_s hf
  have t_b5 := (ldA_spec g_b5).2
  refine gf_RX9_69 105 dX9_thin_102 rfl t_a0 (ldA_spec g_b5).1 ?_
  refine vv_iload 107 dX9_thin_105 rfl rfl ?_
  refine vv_aload_n 108 dX9_thin_107 rfl rfl ?_
  obtain ⟨b6, g_b6, hf⟩ := bind_s hf
  have t_b6 := (ldA_spec g_b6).2
  refine gf_RX9_69 111 dX9_thin_108 rfl t_a0 (ldA_spec g_b6).1 ?_
  refine vv_iload 113 dX9_thin_111 rfl rfl ?_
  obtain ⟨r7, g_r7, hf⟩ := bind_s hf
  refine vv_lald 114 dX9_thin_113 rfl t_b6 g_r7 ?_
  obtain ⟨m8, g_m8, hf⟩ := bind_s hf
  refine vv_last 115 dX9_thin_114 rfl t_b5 g_m8 ?_
  obtain ⟨z9, e_z9, hf⟩ := bd_s hf
  refine vv_iincE (q := 118) (v := z9) (c := 1) (L' := [some (.ref a0), some (.int x1), some (.int x2), some (.int x3), some (.int z9), some (.int x5)]) e_z9 dX9_thin_115 rfl rfl (by decide) (Nat.le_of_ble_eq_true rfl) rfl ?_
  exact v_X9_thin_118 t_a0 k50 hk50 hf

set_option maxHeartbeats 4000000 in
theorem v_X9_thin_50B {w : Wo} {K : Kn} {a0 : Nat} {x1 : Int32} {x2 : Int32} {q : (Int32 × Mem)} (t_a0 : K a0 = some (.inl 8)) (k50 : Mem → Int32 → Int32 → Int32 → Option (Int32 × Mem)) (hk50 : ∀ (m : Mem) (x3 : Int32) (x4 : Int32) (x5 : Int32), k50 m x3 x4 x5 = some q → VV w RX9 cX9_thin 6 (some .int) rm_X9_thin false (QM w K (some (.int q.1)) q.2 0 0) K 50 [some (.ref a0), some (.int x1), some (.int x2), some (.int x3), some (.int x4), some (.int x5)] [] 0 0 m) {m : Mem} {x3 : Int32} {x4 : Int32} {x5 : Int32} (hf : f_X9_thin_50B K a0 x1 x2 k50 m x3 x4 x5 = some q) : VV w RX9 cX9_thin 6 (some .int) rm_X9_thin false (QM w K (some (.int q.1)) q.2 0 0) K 50 [some (.ref a0), some (.int x1), some (.int x2), some (.int x3), some (.int x4), some (.int x5)] [] 0 0 m := by
  unfold f_X9_thin_50B at hf
  refine vv_iload 52 dX9_thin_50 rfl rfl ?_
  refine vv_iload_n 53 dX9_thin_52 rfl rfl ?_
  refine vv_icmp_ge 124 56 dX9_thin_53 rfl (by decide) (fun c1 => ?_) (fun c1 => ?_)
  · rw [if_pos c1] at hf
    refine vv_aload_n 125 dX9_thin_124 rfl rfl ?_
    refine vv_iload 127 dX9_thin_125 rfl rfl ?_
    obtain ⟨m2, e_m2, hf⟩ := bd_s hf
    refine pf_RX9_248 130 dX9_thin_127 rfl t_a0 e_m2 ?_
    refine vv_aload_n 131 dX9_thin_130 rfl rfl ?_
    refine vv_iload_n 132 dX9_thin_131 rfl rfl ?_
    refine vv_aload_n 133 dX9_thin_132 rfl rfl ?_
    obtain ⟨b3, g_b3, hf⟩ := bind_s hf
    have t_b3 := (ldA_spec g_b3).2
    refine gf_RX9_7 136 dX9_thin_133 rfl t_a0 (ldA_spec g_b3).1 ?_
    refine vv_iload_n 137 dX9_thin_136 rfl rfl ?_
    obtain ⟨r4, g_r4, hf⟩ := bind_s hf
    refine vv_iald 138 dX9_thin_137 rfl t_b3 g_r4 ?_
    obtain ⟨q5, g_q5, hf⟩ := bind_s hf
    refine vv_callV 141 (st := []) (As := [.int x1, .int r4]) (stk2 := [.int q5.1]) (cl2 := 0) (sl2 := 0) dX9_thin_138 rfl lk_RX9_300 w_1377 w_47 rfl t_a0 ⟨(Nat.le_of_ble_eq_true rfl), (Nat.le_of_ble_eq_true rfl)⟩ rfl rfl ⟨(Nat.le_of_ble_eq_true rfl), (Nat.le_of_ble_eq_true rfl)⟩ rfl (Nat.le_of_ble_eq_true rfl) rfl rfl rfl rfl (c_X9_lays t_a0 g_q5) ?_
    refine vv_bipush 143 (v := (-4)) dX9_thin_141 rfl (by decide) ?_
    refine vv_icmp_ne 151 146 dX9_thin_143 rfl (by decide) (fun c6 => ?_) (fun c6 => ?_)
    · rw [if_pos c6] at hf
      refine vv_bipush 148 (v := (-4)) dX9_thin_146 rfl (by decide) ?_
      refine vv_goto 155 dX9_thin_148 (by decide) ?_
      obtain rfl := Option.some.inj hf
      exact vv_iret dX9_thin_155 rfl
    · rw [if_neg c6] at hf
      refine vv_iload_n 152 dX9_thin_151 rfl rfl ?_
      refine vv_iload 154 dX9_thin_152 rfl rfl ?_
      refine vv_isub 155 dX9_thin_154 rfl ?_
      obtain rfl := Option.some.inj hf
      exact vv_iret dX9_thin_155 rfl
  · rw [if_neg c1] at hf
    refine vv_iload 58 dX9_thin_56 rfl rfl ?_
    refine vv_if_eq 87 61 dX9_thin_58 rfl (by decide) (fun c7 => ?_) (fun c7 => ?_)
    · rw [if_pos c7] at hf
      exact v_X9_thin_87 t_a0 k50 hk50 hf
    · rw [if_neg c7] at hf
      refine vv_aload_n 62 dX9_thin_61 rfl rfl ?_
      obtain ⟨b8, g_b8, hf⟩ := bind_s hf
      have t_b8 := (ldA_spec g_b8).2
      refine gf_RX9_66 65 dX9_thin_62 rfl t_a0 (ldA_spec g_b8).1 ?_
      refine vv_iload 67 dX9_thin_65 rfl rfl ?_
      obtain ⟨r9, g_r9, hf⟩ := bind_s hf
      refine vv_lald 68 dX9_thin_67 rfl t_b8 g_r9 ?_
      refine vv_iload_n 69 dX9_thin_68 rfl rfl ?_
      refine vv_i2l 70 dX9_thin_69 rfl ?_
      obtain ⟨h10, hf⟩ := gd_s hf
      refine vv_ldiv 71 dX9_thin_70 rfl h10 ?_
      refine vv_aload_n 72 dX9_thin_71 rfl rfl ?_
      obtain ⟨b11, g_b11, hf⟩ := bind_s hf
      have t_b11 := (ldA_spec g_b11).2
      refine gf_RX9_66 75 dX9_thin_72 rfl t_a0 (ldA_spec g_b11).1 ?_
      refine vv_iload 77 dX9_thin_75 rfl rfl ?_
      refine vv_iconst 78 (v := 1) dX9_thin_77 rfl (by decide) ?_
      refine vv_isub 79 dX9_thin_78 rfl ?_
      obtain ⟨r12, g_r12, hf⟩ := bind_s hf
      refine vv_lald 80 dX9_thin_79 rfl t_b11 g_r12 ?_
      refine vv_iload_n 81 dX9_thin_80 rfl rfl ?_
      refine vv_i2l 82 dX9_thin_81 rfl ?_
      obtain ⟨h13, hf⟩ := gd_s hf
      refine vv_ldiv 83 dX9_thin_82 rfl h13 ?_
      refine vv_lcmp 84 dX9_thin_83 rfl ?_
      refine vv_if_eq 118 87 dX9_thin_84 rfl (by decide) (fun c14 => ?_) (fun c14 => ?_)
      · rw [if_pos c14] at hf
        exact v_X9_thin_118 t_a0 k50 hk50 hf
      · rw [if_neg c14] at hf
        exact v_X9_thin_87 t_a0 k50 hk50 hf

theorem v_X9_thin_50 {w : Wo} {K : Kn} {a0 : Nat} {x1 : Int32} {x2 : Int32} {q : (Int32 × Mem)} (t_a0 : K a0 = some (.inl 8)) : ∀ (n : Nat) (m : Mem) (x3 : Int32) (x4 : Int32) (x5 : Int32), f_X9_thin_50 K a0 x1 x2 n m x3 x4 x5 = some q → VV w RX9 cX9_thin 6 (some .int) rm_X9_thin false (QM w K (some (.int q.1)) q.2 0 0) K 50 [some (.ref a0), some (.int x1), some (.int x2), some (.int x3), some (.int x4), some (.int x5)] [] 0 0 m := by
  intro n
  induction n with
  | zero => intro m x3 x4 x5 hf; cases hf
  | succ n ih => intro m x3 x4 x5 hf; exact v_X9_thin_50B (a0 := a0) (x1 := x1) (x2 := x2) t_a0 (f_X9_thin_50 K a0 x1 x2 n) ih hf

set_option maxHeartbeats 4000000 in
theorem v_X9_thin_0 {w : Wo} {K : Kn} {a0 : Nat} {x1 : Int32} {x2 : Int32} {q : (Int32 × Mem)} (t_a0 : K a0 = some (.inl 8)) {m : Mem} (hf : f_X9_thin K a0 x1 x2 m = some q) : VV w RX9 cX9_thin 6 (some .int) rm_X9_thin false (QM w K (some (.int q.1)) q.2 0 0) K 0 [some (.ref a0), some (.int x1), some (.int x2), none, none, none] [] 0 0 m := by
  unfold f_X9_thin at hf
  refine vv_aload_n 1 dX9_thin_0 rfl rfl ?_
  refine vv_iload_n 2 dX9_thin_1 rfl rfl ?_
  obtain ⟨q1, g_q1, hf⟩ := bind_s hf
  refine vv_callV 5 (st := []) (As := [.int x1]) (stk2 := [.int q1]) (cl2 := 0) (sl2 := 0) dX9_thin_2 rfl lk_RX9_87 w_1220 w_21 rfl t_a0 ⟨(Nat.le_of_ble_eq_true rfl), (Nat.le_of_ble_eq_true rfl)⟩ rfl rfl ⟨(Nat.le_of_ble_eq_true rfl), (Nat.le_of_ble_eq_true rfl)⟩ rfl (Nat.le_of_ble_eq_true rfl) rfl rfl rfl rfl (c_X9_isSeries t_a0 g_q1) ?_
  refine vv_if_eq 20 8 dX9_thin_5 rfl (by decide) (fun c2 => ?_) (fun c2 => ?_)
  · rw [if_pos c2] at hf
    refine vv_bipush 22 (v := (-2)) dX9_thin_20 rfl (by decide) ?_
    obtain rfl := Option.some.inj hf
    exact vv_iret dX9_thin_22 rfl
  · rw [if_neg c2] at hf
    refine vv_iload_n 9 dX9_thin_8 rfl rfl ?_
    refine vv_i2l 10 dX9_thin_9 rfl ?_
    refine vv_lconst 11 (v := 1) dX9_thin_10 rfl (by decide) ?_
    refine vv_ldc2 14 (v := 1000000) dX9_thin_11 rfl w_1594 ?_
    obtain ⟨q3, g_q3, hf⟩ := bind_s hf
    refine vv_callS 17 (st := []) (As := [.long ((x2).toInt64), .long (1 : Int64), .long (1000000 : Int64)]) (stk2 := [.int q3]) (cl2 := 0) (sl2 := 0) dX9_thin_14 rfl lk_RX9_83 w_1206 ⟨(Nat.le_of_ble_eq_true rfl), (Nat.le_of_ble_eq_true rfl)⟩ rfl rfl ⟨(Nat.le_of_ble_eq_true rfl), (Nat.le_of_ble_eq_true rfl)⟩ rfl (Nat.le_of_ble_eq_true rfl) rfl rfl rfl rfl (c_X9_in g_q3) ?_
    refine vv_if_ne 23 20 dX9_thin_17 rfl (by decide) (fun c4 => ?_) (fun c4 => ?_)
    · rw [if_pos c4] at hf
      refine vv_bipush 22 (v := (-2)) dX9_thin_20 rfl (by decide) ?_
      obtain rfl := Option.some.inj hf
      exact vv_iret dX9_thin_22 rfl
    · rw [if_neg c4] at hf
      refine vv_aload_n 24 dX9_thin_23 rfl rfl ?_
      refine vv_iload_n 25 dX9_thin_24 rfl rfl ?_
      obtain ⟨q5, g_q5, hf⟩ := bind_s hf
      refine vv_callV 28 (st := []) (As := [.int x1]) (stk2 := [.int q5.1]) (cl2 := 0) (sl2 := 0) dX9_thin_25 rfl lk_RX9_294 w_1361 w_43 rfl t_a0 ⟨(Nat.le_of_ble_eq_true rfl), (Nat.le_of_ble_eq_true rfl)⟩ rfl rfl ⟨(Nat.le_of_ble_eq_true rfl), (Nat.le_of_ble_eq_true rfl)⟩ rfl (Nat.le_of_ble_eq_true rfl) rfl rfl rfl rfl (c_X9_hasBroken t_a0 g_q5) ?_
      refine vv_if_eq 34 31 dX9_thin_28 rfl (by decide) (fun c6 => ?_) (fun c6 => ?_)
      · rw [if_pos c6] at hf
        refine vv_aload_n 35 dX9_thin_34 rfl rfl ?_
        refine vv_iload_n 36 dX9_thin_35 rfl rfl ?_
        obtain ⟨q7, g_q7, hf⟩ := bind_s hf
        refine vv_callV 39 (st := []) (As := [.int x1]) (stk2 := []) (cl2 := 0) (sl2 := 0) dX9_thin_36 rfl lk_RX9_297 w_1369 w_45 rfl t_a0 ⟨(Nat.le_of_ble_eq_true rfl), (Nat.le_of_ble_eq_true rfl)⟩ rfl rfl ⟨(Nat.le_of_ble_eq_true rfl), (Nat.le_of_ble_eq_true rfl)⟩ rfl (Nat.le_of_ble_eq_true rfl) rfl rfl rfl rfl (c_X9_gathers t_a0 g_q7) ?_
        refine vv_aload_n 40 dX9_thin_39 rfl rfl ?_
        refine gf_RX9_248 43 dX9_thin_40 rfl t_a0 ?_
        obtain ⟨z8, e_z8, hf⟩ := bd_s hf
        refine vv_istore_nE (q := 44) (v := z8) (L' := [some (.ref a0), some (.int x1), some (.int x2), some (.int z8), none, none]) e_z8 dX9_thin_43 rfl (Nat.le_of_ble_eq_true rfl) rfl ?_
        refine vv_iconst 45 (v := 0) dX9_thin_44 rfl (by decide) ?_
        refine vv_istore 47 (L' := [some (.ref a0), some (.int x1), some (.int x2), some (.int z8), some (.int (0 : Int32)), none]) dX9_thin_45 rfl (Nat.le_of_ble_eq_true rfl) rfl ?_
        refine vv_iconst 48 (v := 0) dX9_thin_47 rfl (by decide) ?_
        refine vv_istore 50 (L' := [some (.ref a0), some (.int x1), some (.int x2), some (.int z8), some (.int (0 : Int32)), some (.int (0 : Int32))]) dX9_thin_48 rfl (Nat.le_of_ble_eq_true rfl) rfl ?_
        exact v_X9_thin_50 t_a0 FU _ _ _ _ hf
      · rw [if_neg c6] at hf
        refine vv_bipush 33 (v := (-6)) dX9_thin_31 rfl (by decide) ?_
        obtain rfl := Option.some.inj hf
        exact vv_iret dX9_thin_33 rfl

theorem c_X9_thin {w : Wo} {K : Kn} {a0 : Nat} {x1 : Int32} {x2 : Int32} {q : (Int32 × Mem)} {m : Mem} (t_a0 : K a0 = some (.inl 8)) (hf : F_X9_thin K m a0 x1 x2 = some q) : MM w K K yX9_thin cX9_thin 6 (some .int) rm_X9_thin [.ref a0, .int x1, .int x2] m (some (.int q.1)) q.2 0 0 :=
  mm_of (ini := false) (n := 3) (plainFor_of_name (by decide)) rfl (fun h => by first | rfl | cases h) (Nat.le_of_ble_eq_true rfl) rfl (v_X9_thin_0 t_a0 hf)

set_option maxHeartbeats 4000000 in
theorem v_X9_cuts_48B {w : Wo} {K : Kn} {a0 : Nat} {x1 : Int32} {x2 : Int32} {x3 : Int32} {q : (Int32 × Mem)} (t_a0 : K a0 = some (.inl 8)) (k48 : Mem → Int32 → Int32 → Option (Int32 × Mem)) (hk48 : ∀ (m : Mem) (x4 : Int32) (x5 : Int32), k48 m x4 x5 = some q → VV w RX9 cX9_cuts 6 (some .int) rm_X9_cuts false (QM w K (some (.int q.1)) q.2 0 0) K 48 [some (.ref a0), some (.int x1), none, none, some (.int x4), some (.int x5)] [] 0 0 m) {m : Mem} {x4 : Int32} {x5 : Int32} (hf : f_X9_cuts_48B K a0 x1 x2 x3 k48 m x4 x5 = some q) : VV w RX9 cX9_cuts 6 (some .int) rm_X9_cuts false (QM w K (some (.int q.1)) q.2 0 0) K 48 [some (.ref a0), some (.int x1), none, none, some (.int x4), some (.int x5)] [] 0 0 m := by
  unfold f_X9_cuts_48B at hf
  refine vv_iload 50 dX9_cuts_48 rfl rfl ?_
  refine vv_aload_n 51 dX9_cuts_50 rfl rfl ?_
  refine gf_RX9_248 54 dX9_cuts_51 rfl t_a0 ?_
  refine vv_icmp_ge 97 57 dX9_cuts_54 rfl (by decide) (fun c1 => ?_) (fun c1 => ?_)
  · rw [if_pos c1] at hf
    refine vv_aload_n 98 dX9_cuts_97 rfl rfl ?_
    refine vv_dup 99 dX9_cuts_98 rfl rfl ?_
    refine gf_RX9_248 102 dX9_cuts_99 rfl t_a0 ?_
    refine vv_iload 104 dX9_cuts_102 rfl rfl ?_
    refine vv_isub 105 dX9_cuts_104 rfl ?_
    obtain ⟨m2, e_m2, hf⟩ := bd_s hf
    refine pf_RX9_248 108 dX9_cuts_105 rfl t_a0 e_m2 ?_
    refine vv_aload_n 109 dX9_cuts_108 rfl rfl ?_
    refine vv_iload_n 110 dX9_cuts_109 rfl rfl ?_
    refine vv_aload_n 111 dX9_cuts_110 rfl rfl ?_
    obtain ⟨b3, g_b3, hf⟩ := bind_s hf
    have t_b3 := (ldA_spec g_b3).2
    refine gf_RX9_7 114 dX9_cuts_111 rfl t_a0 (ldA_spec g_b3).1 ?_
    refine vv_iload_n 115 dX9_cuts_114 rfl rfl ?_
    obtain ⟨r4, g_r4, hf⟩ := bind_s hf
    refine vv_iald 116 dX9_cuts_115 rfl t_b3 g_r4 ?_
    obtain ⟨q5, g_q5, hf⟩ := bind_s hf
    refine vv_callV 119 (st := []) (As := [.int x1, .int r4]) (stk2 := [.int q5.1]) (cl2 := 0) (sl2 := 0) dX9_cuts_116 rfl lk_RX9_300 w_1377 w_47 rfl t_a0 ⟨(Nat.le_of_ble_eq_true rfl), (Nat.le_of_ble_eq_true rfl)⟩ rfl rfl ⟨(Nat.le_of_ble_eq_true rfl), (Nat.le_of_ble_eq_true rfl)⟩ rfl (Nat.le_of_ble_eq_true rfl) rfl rfl rfl rfl (c_X9_lays t_a0 g_q5) ?_
    refine vv_bipush 121 (v := (-4)) dX9_cuts_119 rfl (by decide) ?_
    refine vv_icmp_ne 129 124 dX9_cuts_121 rfl (by decide) (fun c6 => ?_) (fun c6 => ?_)
    · rw [if_pos c6] at hf
      refine vv_bipush 126 (v := (-4)) dX9_cuts_124 rfl (by decide) ?_
      refine vv_goto 131 dX9_cuts_126 (by decide) ?_
      obtain rfl := Option.some.inj hf
      exact vv_iret dX9_cuts_131 rfl
    · rw [if_neg c6] at hf
      refine vv_iload 131 dX9_cuts_129 rfl rfl ?_
      obtain rfl := Option.some.inj hf
      exact vv_iret dX9_cuts_131 rfl
  · rw [if_neg c1] at hf
    refine vv_aload_n 58 dX9_cuts_57 rfl rfl ?_
    obtain ⟨b7, g_b7, hf⟩ := bind_s hf
    have t_b7 := (ldA_spec g_b7).2
    refine gf_RX9_66 61 dX9_cuts_58 rfl t_a0 (ldA_spec g_b7).1 ?_
    refine vv_iload 63 dX9_cuts_61 rfl rfl ?_
    refine vv_iload 65 dX9_cuts_63 rfl rfl ?_
    refine vv_isub 66 dX9_cuts_65 rfl ?_
    refine vv_aload_n 67 dX9_cuts_66 rfl rfl ?_
    obtain ⟨b8, g_b8, hf⟩ := bind_s hf
    have t_b8 := (ldA_spec g_b8).2
    refine gf_RX9_66 70 dX9_cuts_67 rfl t_a0 (ldA_spec g_b8).1 ?_
    refine vv_iload 72 dX9_cuts_70 rfl rfl ?_
    obtain ⟨r9, g_r9, hf⟩ := bind_s hf
    refine vv_lald 73 dX9_cuts_72 rfl t_b8 g_r9 ?_
    obtain ⟨m10, g_m10, hf⟩ := bind_s hf
    refine vv_last 74 dX9_cuts_73 rfl t_b7 g_m10 ?_
    refine vv_aload_n 75 dX9_cuts_74 rfl rfl ?_
    obtain ⟨b11, g_b11, hf⟩ := bind_s hf
    have t_b11 := (ldA_spec g_b11).2
    refine gf_RX9_69 78 dX9_cuts_75 rfl t_a0 (ldA_spec g_b11).1 ?_
    refine vv_iload 80 dX9_cuts_78 rfl rfl ?_
    refine vv_iload 82 dX9_cuts_80 rfl rfl ?_
    refine vv_isub 83 dX9_cuts_82 rfl ?_
    refine vv_aload_n 84 dX9_cuts_83 rfl rfl ?_
    obtain ⟨b12, g_b12, hf⟩ := bind_s hf
    have t_b12 := (ldA_spec g_b12).2
    refine gf_RX9_69 87 dX9_cuts_84 rfl t_a0 (ldA_spec g_b12).1 ?_
    refine vv_iload 89 dX9_cuts_87 rfl rfl ?_
    obtain ⟨r13, g_r13, hf⟩ := bind_s hf
    refine vv_lald 90 dX9_cuts_89 rfl t_b12 g_r13 ?_
    obtain ⟨m14, g_m14, hf⟩ := bind_s hf
    refine vv_last 91 dX9_cuts_90 rfl t_b11 g_m14 ?_
    obtain ⟨z15, e_z15, hf⟩ := bd_s hf
    refine vv_iincE (q := 94) (v := z15) (c := 1) (L' := [some (.ref a0), some (.int x1), none, none, some (.int x4), some (.int z15)]) e_z15 dX9_cuts_91 rfl rfl (by decide) (Nat.le_of_ble_eq_true rfl) rfl ?_
    refine vv_goto 48 dX9_cuts_94 (by decide) ?_
    exact hk48 _ _ _ hf

theorem v_X9_cuts_48 {w : Wo} {K : Kn} {a0 : Nat} {x1 : Int32} {x2 : Int32} {x3 : Int32} {q : (Int32 × Mem)} (t_a0 : K a0 = some (.inl 8)) : ∀ (n : Nat) (m : Mem) (x4 : Int32) (x5 : Int32), f_X9_cuts_48 K a0 x1 x2 x3 n m x4 x5 = some q → VV w RX9 cX9_cuts 6 (some .int) rm_X9_cuts false (QM w K (some (.int q.1)) q.2 0 0) K 48 [some (.ref a0), some (.int x1), none, none, some (.int x4), some (.int x5)] [] 0 0 m := by
  intro n
  induction n with
  | zero => intro m x4 x5 hf; cases hf
  | succ n ih => intro m x4 x5 hf; exact v_X9_cuts_48B (a0 := a0) (x1 := x1) (x2 := x2) (x3 := x3) t_a0 (f_X9_cuts_48 K a0 x1 x2 x3 n) ih hf

set_option maxHeartbeats 4000000 in
theorem v_X9_cuts_0 {w : Wo} {K : Kn} {a0 : Nat} {x1 : Int32} {x2 : Int32} {x3 : Int32} {q : (Int32 × Mem)} (t_a0 : K a0 = some (.inl 8)) {m : Mem} (hf : f_X9_cuts K a0 x1 x2 x3 m = some q) : VV w RX9 cX9_cuts 6 (some .int) rm_X9_cuts false (QM w K (some (.int q.1)) q.2 0 0) K 0 [some (.ref a0), some (.int x1), some (.int x2), some (.int x3), none, none] [] 0 0 m := by
  unfold f_X9_cuts at hf
  refine vv_aload_n 1 dX9_cuts_0 rfl rfl ?_
  refine vv_iload_n 2 dX9_cuts_1 rfl rfl ?_
  refine vv_iload_n 3 dX9_cuts_2 rfl rfl ?_
  refine vv_iload_n 4 dX9_cuts_3 rfl rfl ?_
  obtain ⟨q1, g_q1, hf⟩ := bind_s hf
  refine vv_callV 7 (st := []) (As := [.int x1, .int x2, .int x3]) (stk2 := [.int q1]) (cl2 := 0) (sl2 := 0) dX9_cuts_4 rfl lk_RX9_343 w_1496 w_56 rfl t_a0 ⟨(Nat.le_of_ble_eq_true rfl), (Nat.le_of_ble_eq_true rfl)⟩ rfl rfl ⟨(Nat.le_of_ble_eq_true rfl), (Nat.le_of_ble_eq_true rfl)⟩ rfl (Nat.le_of_ble_eq_true rfl) rfl rfl rfl rfl (c_X9_isSpan t_a0 g_q1) ?_
  refine vv_if_ne 13 10 dX9_cuts_7 rfl (by decide) (fun c2 => ?_) (fun c2 => ?_)
  · rw [if_pos c2] at hf
    refine vv_bipush 12 (v := (-2)) dX9_cuts_10 rfl (by decide) ?_
    obtain rfl := Option.some.inj hf
    exact vv_iret dX9_cuts_12 rfl
  · rw [if_neg c2] at hf
    refine vv_aload_n 14 dX9_cuts_13 rfl rfl ?_
    refine vv_iload_n 15 dX9_cuts_14 rfl rfl ?_
    obtain ⟨q3, g_q3, hf⟩ := bind_s hf
    refine vv_callV 18 (st := []) (As := [.int x1]) (stk2 := [.int q3.1]) (cl2 := 0) (sl2 := 0) dX9_cuts_15 rfl lk_RX9_294 w_1361 w_43 rfl t_a0 ⟨(Nat.le_of_ble_eq_true rfl), (Nat.le_of_ble_eq_true rfl)⟩ rfl rfl ⟨(Nat.le_of_ble_eq_true rfl), (Nat.le_of_ble_eq_true rfl)⟩ rfl (Nat.le_of_ble_eq_true rfl) rfl rfl rfl rfl (c_X9_hasBroken t_a0 g_q3) ?_
    refine vv_if_eq 24 21 dX9_cuts_18 rfl (by decide) (fun c4 => ?_) (fun c4 => ?_)
    · rw [if_pos c4] at hf
      refine vv_aload_n 25 dX9_cuts_24 rfl rfl ?_
      refine vv_iload_n 26 dX9_cuts_25 rfl rfl ?_
      refine vv_iload_n 27 dX9_cuts_26 rfl rfl ?_
      refine vv_iload_n 28 dX9_cuts_27 rfl rfl ?_
      obtain ⟨q5, g_q5, hf⟩ := bind_s hf
      refine vv_callV 31 (st := []) (As := [.int x1, .int x2, .int x3]) (stk2 := []) (cl2 := 0) (sl2 := 0) dX9_cuts_28 rfl lk_RX9_351 w_1504 w_58 rfl t_a0 ⟨(Nat.le_of_ble_eq_true rfl), (Nat.le_of_ble_eq_true rfl)⟩ rfl rfl ⟨(Nat.le_of_ble_eq_true rfl), (Nat.le_of_ble_eq_true rfl)⟩ rfl (Nat.le_of_ble_eq_true rfl) rfl rfl rfl rfl (c_X9_laysSpan t_a0 g_q5) ?_
      refine vv_aload_n 32 dX9_cuts_31 rfl rfl ?_
      refine gf_RX9_340 35 dX9_cuts_32 rfl t_a0 ?_
      refine vv_aload_n 36 dX9_cuts_35 rfl rfl ?_
      refine gf_RX9_337 39 dX9_cuts_36 rfl t_a0 ?_
      refine vv_isub 40 dX9_cuts_39 rfl ?_
      obtain ⟨z6, e_z6, hf⟩ := bd_s hf
      refine vv_istoreE (q := 42) (v := z6) (L' := [some (.ref a0), some (.int x1), some (.int x2), some (.int x3), some (.int z6), none]) e_z6 dX9_cuts_40 rfl (Nat.le_of_ble_eq_true rfl) rfl ?_
      refine vv_aload_n 43 dX9_cuts_42 rfl rfl ?_
      refine gf_RX9_340 46 dX9_cuts_43 rfl t_a0 ?_
      obtain ⟨z7, e_z7, hf⟩ := bd_s hf
      refine vv_istoreE (q := 48) (v := z7) (L' := [some (.ref a0), some (.int x1), some (.int x2), some (.int x3), some (.int z6), some (.int z7)]) e_z7 dX9_cuts_46 rfl (Nat.le_of_ble_eq_true rfl) rfl ?_
      exact VV.lle (v_X9_cuts_48 t_a0 FU _ _ _ hf) (lle_s (lle_s (lle_n (lle_n (lle_s (lle_s lle_nil))))))
    · rw [if_neg c4] at hf
      refine vv_bipush 23 (v := (-6)) dX9_cuts_21 rfl (by decide) ?_
      obtain rfl := Option.some.inj hf
      exact vv_iret dX9_cuts_23 rfl

theorem c_X9_cuts {w : Wo} {K : Kn} {a0 : Nat} {x1 : Int32} {x2 : Int32} {x3 : Int32} {q : (Int32 × Mem)} {m : Mem} (t_a0 : K a0 = some (.inl 8)) (hf : F_X9_cuts K m a0 x1 x2 x3 = some q) : MM w K K yX9_cuts cX9_cuts 6 (some .int) rm_X9_cuts [.ref a0, .int x1, .int x2, .int x3] m (some (.int q.1)) q.2 0 0 :=
  mm_of (ini := false) (n := 2) (plainFor_of_name (by decide)) rfl (fun h => by first | rfl | cases h) (Nat.le_of_ble_eq_true rfl) rfl (v_X9_cuts_0 t_a0 hf)

set_option maxHeartbeats 4000000 in
theorem v_X9_join_94 {w : Wo} {K : Kn} {a0 : Nat} {x1 : Int32} {x2 : Int32} {x3 : Int32} {q : (Int32 × Mem)} (t_a0 : K a0 = some (.inl 8)) (k62 : Mem → Int32 → Int32 → Int32 → Option (Int32 × Mem)) (hk62 : ∀ (m : Mem) (x4 : Int32) (x5 : Int32) (x6 : Int32), k62 m x4 x5 x6 = some q → VV w RX9 cX9_join 8 (some .int) rm_X9_join false (QM w K (some (.int q.1)) q.2 0 0) K 62 [some (.ref a0), some (.int x1), none, some (.int x3), some (.int x4), some (.int x5), some (.int x6), none] [] 0 0 m) {m : Mem} {x4 : Int32} {x6 : Int32} {s0 : Int32} {s1 : Int32} (hf : f_X9_join_94 K a0 x1 x2 x3 k62 m x4 x6 s0 s1 = some q) : VV w RX9 cX9_join 8 (some .int) rm_X9_join false (QM w K (some (.int q.1)) q.2 0 0) K 94 [some (.ref a0), some (.int x1), none, some (.int x3), some (.int x4), none, some (.int x6), none] [.int s1, .int s0] 0 0 m := by
  unfold f_X9_join_94 at hf
  refine vv_iadd 95 dX9_join_94 rfl ?_
  obtain ⟨z1, e_z1, hf⟩ := bd_s hf
  refine vv_istoreE (q := 97) (v := z1) (L' := [some (.ref a0), some (.int x1), none, some (.int x3), some (.int x4), some (.int z1), some (.int x6), none]) e_z1 dX9_join_95 rfl (Nat.le_of_ble_eq_true rfl) rfl ?_
  obtain ⟨z2, e_z2, hf⟩ := bd_s hf
  refine vv_iincE (q := 100) (v := z2) (c := 1) (L' := [some (.ref a0), some (.int x1), none, some (.int x3), some (.int x4), some (.int z1), some (.int z2), none]) e_z2 dX9_join_97 rfl rfl (by decide) (Nat.le_of_ble_eq_true rfl) rfl ?_
  refine vv_goto 62 dX9_join_100 (by decide) ?_
  exact hk62 _ _ _ _ hf

set_option maxHeartbeats 4000000 in
theorem v_X9_join_185 {w : Wo} {K : Kn} {a0 : Nat} {x1 : Int32} {x2 : Int32} {x3 : Int32} {q : (Int32 × Mem)} (t_a0 : K a0 = some (.inl 8)) (k124 : Mem → Int32 → Int32 → Int32 → Int32 → Option (Int32 × Mem)) (hk124 : ∀ (m : Mem) (x4 : Int32) (x5 : Int32) (x6 : Int32) (x7 : Int32), k124 m x4 x5 x6 x7 = some q → VV w RX9 cX9_join 8 (some .int) rm_X9_join false (QM w K (some (.int q.1)) q.2 0 0) K 124 [some (.ref a0), some (.int x1), none, some (.int x3), some (.int x4), some (.int x5), some (.int x6), some (.int x7)] [] 0 0 m) {m : Mem} {x4 : Int32} {x5 : Int32} {x6 : Int32} {s0 : Int32} {s1 : Int32} (hf : f_X9_join_185 K a0 x1 x2 x3 k124 m x4 x5 x6 s0 s1 = some q) : VV w RX9 cX9_join 8 (some .int) rm_X9_join false (QM w K (some (.int q.1)) q.2 0 0) K 185 [some (.ref a0), some (.int x1), none, some (.int x3), some (.int x4), some (.int x5), some (.int x6), none] [.int s1, .int s0] 0 0 m := by
  unfold f_X9_join_185 at hf
  refine vv_isub 186 dX9_join_185 rfl ?_
  obtain ⟨z1, e_z1, hf⟩ := bd_s hf
  refine vv_istoreE (q := 188) (v := z1) (L' := [some (.ref a0), some (.int x1), none, some (.int x3), some (.int x4), some (.int x5), some (.int x6), some (.int z1)]) e_z1 dX9_join_186 rfl (Nat.le_of_ble_eq_true rfl) rfl ?_
  obtain ⟨z2, e_z2, hf⟩ := bd_s hf
  refine vv_iincE (q := 191) (v := z2) (c := (-1)) (L' := [some (.ref a0), some (.int x1), none, some (.int x3), some (.int z2), some (.int x5), some (.int x6), some (.int z1)]) e_z2 dX9_join_188 rfl rfl (by decide) (Nat.le_of_ble_eq_true rfl) rfl ?_
  obtain ⟨z3, e_z3, hf⟩ := bd_s hf
  refine vv_iincE (q := 194) (v := z3) (c := (-1)) (L' := [some (.ref a0), some (.int x1), none, some (.int x3), some (.int z2), some (.int x5), some (.int z3), some (.int z1)]) e_z3 dX9_join_191 rfl rfl (by decide) (Nat.le_of_ble_eq_true rfl) rfl ?_
  refine vv_aload_n 195 dX9_join_194 rfl rfl ?_
  obtain ⟨b4, g_b4, hf⟩ := bind_s hf
  have t_b4 := (ldA_spec g_b4).2
  refine gf_RX9_66 198 dX9_join_195 rfl t_a0 (ldA_spec g_b4).1 ?_
  refine vv_iload 200 dX9_join_198 rfl rfl ?_
  refine vv_aload_n 201 dX9_join_200 rfl rfl ?_
  obtain ⟨b5, g_b5, hf⟩ := bind_s hf
  have t_b5 := (ldA_spec g_b5).2
  refine gf_RX9_66 204 dX9_join_201 rfl t_a0 (ldA_spec g_b5).1 ?_
  refine vv_iload 206 dX9_join_204 rfl rfl ?_
  obtain ⟨r6, g_r6, hf⟩ := bind_s hf
  refine vv_lald 207 dX9_join_206 rfl t_b5 g_r6 ?_
  obtain ⟨m7, g_m7, hf⟩ := bind_s hf
  refine vv_last 208 dX9_join_207 rfl t_b4 g_m7 ?_
  refine vv_aload_n 209 dX9_join_208 rfl rfl ?_
  obtain ⟨b8, g_b8, hf⟩ := bind_s hf
  have t_b8 := (ldA_spec g_b8).2
  refine gf_RX9_69 212 dX9_join_209 rfl t_a0 (ldA_spec g_b8).1 ?_
  refine vv_iload 214 dX9_join_212 rfl rfl ?_
  refine vv_aload_n 215 dX9_join_214 rfl rfl ?_
  obtain ⟨b9, g_b9, hf⟩ := bind_s hf
  have t_b9 := (ldA_spec g_b9).2
  refine gf_RX9_69 218 dX9_join_215 rfl t_a0 (ldA_spec g_b9).1 ?_
  refine vv_iload 220 dX9_join_218 rfl rfl ?_
  obtain ⟨r10, g_r10, hf⟩ := bind_s hf
  refine vv_lald 221 dX9_join_220 rfl t_b9 g_r10 ?_
  obtain ⟨m11, g_m11, hf⟩ := bind_s hf
  refine vv_last 222 dX9_join_221 rfl t_b8 g_m11 ?_
  refine vv_goto 124 dX9_join_222 (by decide) ?_
  exact hk124 _ _ _ _ _ hf

set_option maxHeartbeats 4000000 in
theorem v_X9_join_225 {w : Wo} {K : Kn} {a0 : Nat} {x1 : Int32} {x2 : Int32} {x3 : Int32} {q : (Int32 × Mem)} (t_a0 : K a0 = some (.inl 8)) (k124 : Mem → Int32 → Int32 → Int32 → Int32 → Option (Int32 × Mem)) (hk124 : ∀ (m : Mem) (x4 : Int32) (x5 : Int32) (x6 : Int32) (x7 : Int32), k124 m x4 x5 x6 x7 = some q → VV w RX9 cX9_join 8 (some .int) rm_X9_join false (QM w K (some (.int q.1)) q.2 0 0) K 124 [some (.ref a0), some (.int x1), none, some (.int x3), some (.int x4), some (.int x5), some (.int x6), some (.int x7)] [] 0 0 m) {m : Mem} {x4 : Int32} {x5 : Int32} {x6 : Int32} {x7 : Int32} (hf : f_X9_join_225 K a0 x1 x2 x3 k124 m x4 x5 x6 x7 = some q) : VV w RX9 cX9_join 8 (some .int) rm_X9_join false (QM w K (some (.int q.1)) q.2 0 0) K 225 [some (.ref a0), some (.int x1), none, some (.int x3), some (.int x4), some (.int x5), some (.int x6), some (.int x7)] [] 0 0 m := by
  unfold f_X9_join_225 at hf
  obtain ⟨z1, e_z1, hf⟩ := bd_s hf
  refine vv_iincE (q := 228) (v := z1) (c := (-1)) (L' := [some (.ref a0), some (.int x1), none, some (.int x3), some (.int x4), some (.int x5), some (.int x6), some (.int z1)]) e_z1 dX9_join_225 rfl rfl (by decide) (Nat.le_of_ble_eq_true rfl) rfl ?_
  obtain ⟨z2, e_z2, hf⟩ := bd_s hf
  refine vv_iincE (q := 231) (v := z2) (c := (-1)) (L' := [some (.ref a0), some (.int x1), none, some (.int x3), some (.int x4), some (.int x5), some (.int z2), some (.int z1)]) e_z2 dX9_join_228 rfl rfl (by decide) (Nat.le_of_ble_eq_true rfl) rfl ?_
  refine vv_aload_n 232 dX9_join_231 rfl rfl ?_
  obtain ⟨b3, g_b3, hf⟩ := bind_s hf
  have t_b3 := (ldA_spec g_b3).2
  refine gf_RX9_66 235 dX9_join_232 rfl t_a0 (ldA_spec g_b3).1 ?_
  refine vv_iload 237 dX9_join_235 rfl rfl ?_
  refine vv_aload_n 238 dX9_join_237 rfl rfl ?_
  obtain ⟨b4, g_b4, hf⟩ := bind_s hf
  have t_b4 := (ldA_spec g_b4).2
  refine gf_RX9_75 241 dX9_join_238 rfl t_a0 (ldA_spec g_b4).1 ?_
  refine vv_iload 243 dX9_join_241 rfl rfl ?_
  obtain ⟨r5, g_r5, hf⟩ := bind_s hf
  refine vv_lald 244 dX9_join_243 rfl t_b4 g_r5 ?_
  obtain ⟨m6, g_m6, hf⟩ := bind_s hf
  refine vv_last 245 dX9_join_244 rfl t_b3 g_m6 ?_
  refine vv_aload_n 246 dX9_join_245 rfl rfl ?_
  obtain ⟨b7, g_b7, hf⟩ := bind_s hf
  have t_b7 := (ldA_spec g_b7).2
  refine gf_RX9_69 249 dX9_join_246 rfl t_a0 (ldA_spec g_b7).1 ?_
  refine vv_iload 251 dX9_join_249 rfl rfl ?_
  refine vv_aload_n 252 dX9_join_251 rfl rfl ?_
  obtain ⟨b8, g_b8, hf⟩ := bind_s hf
  have t_b8 := (ldA_spec g_b8).2
  refine gf_RX9_78 255 dX9_join_252 rfl t_a0 (ldA_spec g_b8).1 ?_
  refine vv_iload 257 dX9_join_255 rfl rfl ?_
  obtain ⟨r9, g_r9, hf⟩ := bind_s hf
  refine vv_lald 258 dX9_join_257 rfl t_b8 g_r9 ?_
  obtain ⟨m10, g_m10, hf⟩ := bind_s hf
  refine vv_last 259 dX9_join_258 rfl t_b7 g_m10 ?_
  refine vv_goto 124 dX9_join_259 (by decide) ?_
  exact hk124 _ _ _ _ _ hf

set_option maxHeartbeats 4000000 in
theorem v_X9_join_124B {w : Wo} {K : Kn} {a0 : Nat} {x1 : Int32} {x2 : Int32} {x3 : Int32} {q : (Int32 × Mem)} (t_a0 : K a0 = some (.inl 8)) (k124 : Mem → Int32 → Int32 → Int32 → Int32 → Option (Int32 × Mem)) (hk124 : ∀ (m : Mem) (x4 : Int32) (x5 : Int32) (x6 : Int32) (x7 : Int32), k124 m x4 x5 x6 x7 = some q → VV w RX9 cX9_join 8 (some .int) rm_X9_join false (QM w K (some (.int q.1)) q.2 0 0) K 124 [some (.ref a0), some (.int x1), none, some (.int x3), some (.int x4), some (.int x5), some (.int x6), some (.int x7)] [] 0 0 m) {m : Mem} {x4 : Int32} {x5 : Int32} {x6 : Int32} {x7 : Int32} (hf : f_X9_join_124B K a0 x1 x2 x3 k124 m x4 x5 x6 x7 = some q) : VV w RX9 cX9_join 8 (some .int) rm_X9_join false (QM w K (some (.int q.1)) q.2 0 0) K 124 [some (.ref a0), some (.int x1), none, some (.int x3), some (.int x4), some (.int x5), some (.int x6), some (.int x7)] [] 0 0 m := by
  unfold f_X9_join_124B at hf
  refine vv_iload 126 dX9_join_124 rfl rfl ?_
  refine vv_if_le 262 129 dX9_join_126 rfl (by decide) (fun c1 => ?_) (fun c1 => ?_)
  · rw [if_pos c1] at hf
    refine vv_aload_n 263 dX9_join_262 rfl rfl ?_
    refine vv_iload 265 dX9_join_263 rfl rfl ?_
    obtain ⟨m2, e_m2, hf⟩ := bd_s hf
    refine pf_RX9_248 268 dX9_join_265 rfl t_a0 e_m2 ?_
    refine vv_aload_n 269 dX9_join_268 rfl rfl ?_
    refine vv_iload_n 270 dX9_join_269 rfl rfl ?_
    refine vv_aload_n 271 dX9_join_270 rfl rfl ?_
    obtain ⟨b3, g_b3, hf⟩ := bind_s hf
    have t_b3 := (ldA_spec g_b3).2
    refine gf_RX9_7 274 dX9_join_271 rfl t_a0 (ldA_spec g_b3).1 ?_
    refine vv_iload_n 275 dX9_join_274 rfl rfl ?_
    obtain ⟨r4, g_r4, hf⟩ := bind_s hf
    refine vv_iald 276 dX9_join_275 rfl t_b3 g_r4 ?_
    obtain ⟨q5, g_q5, hf⟩ := bind_s hf
    refine vv_callV 279 (st := []) (As := [.int x3, .int r4]) (stk2 := [.int q5.1]) (cl2 := 0) (sl2 := 0) dX9_join_276 rfl lk_RX9_300 w_1377 w_47 rfl t_a0 ⟨(Nat.le_of_ble_eq_true rfl), (Nat.le_of_ble_eq_true rfl)⟩ rfl rfl ⟨(Nat.le_of_ble_eq_true rfl), (Nat.le_of_ble_eq_true rfl)⟩ rfl (Nat.le_of_ble_eq_true rfl) rfl rfl rfl rfl (c_X9_lays t_a0 g_q5) ?_
    obtain rfl := Option.some.inj hf
    exact vv_iret dX9_join_279 rfl
  · rw [if_neg c1] at hf
    refine vv_iload 131 dX9_join_129 rfl rfl ?_
    refine vv_if_le 225 134 dX9_join_131 rfl (by decide) (fun c6 => ?_) (fun c6 => ?_)
    · rw [if_pos c6] at hf
      exact v_X9_join_225 t_a0 k124 hk124 hf
    · rw [if_neg c6] at hf
      refine vv_aload_n 135 dX9_join_134 rfl rfl ?_
      obtain ⟨b7, g_b7, hf⟩ := bind_s hf
      have t_b7 := (ldA_spec g_b7).2
      refine gf_RX9_66 138 dX9_join_135 rfl t_a0 (ldA_spec g_b7).1 ?_
      refine vv_iload 140 dX9_join_138 rfl rfl ?_
      refine vv_iconst 141 (v := 1) dX9_join_140 rfl (by decide) ?_
      refine vv_isub 142 dX9_join_141 rfl ?_
      obtain ⟨r8, g_r8, hf⟩ := bind_s hf
      refine vv_lald 143 dX9_join_142 rfl t_b7 g_r8 ?_
      refine vv_aload_n 144 dX9_join_143 rfl rfl ?_
      obtain ⟨b9, g_b9, hf⟩ := bind_s hf
      have t_b9 := (ldA_spec g_b9).2
      refine gf_RX9_75 147 dX9_join_144 rfl t_a0 (ldA_spec g_b9).1 ?_
      refine vv_iload 149 dX9_join_147 rfl rfl ?_
      refine vv_iconst 150 (v := 1) dX9_join_149 rfl (by decide) ?_
      refine vv_isub 151 dX9_join_150 rfl ?_
      obtain ⟨r10, g_r10, hf⟩ := bind_s hf
      refine vv_lald 152 dX9_join_151 rfl t_b9 g_r10 ?_
      refine vv_lcmp 153 dX9_join_152 rfl ?_
      refine vv_if_lt 225 156 dX9_join_153 rfl (by decide) (fun c11 => ?_) (fun c11 => ?_)
      · rw [if_pos c11] at hf
        exact v_X9_join_225 t_a0 k124 hk124 hf
      · rw [if_neg c11] at hf
        refine vv_iload 158 dX9_join_156 rfl rfl ?_
        refine vv_aload_n 159 dX9_join_158 rfl rfl ?_
        obtain ⟨b12, g_b12, hf⟩ := bind_s hf
        have t_b12 := (ldA_spec g_b12).2
        refine gf_RX9_66 162 dX9_join_159 rfl t_a0 (ldA_spec g_b12).1 ?_
        refine vv_iload 164 dX9_join_162 rfl rfl ?_
        refine vv_iconst 165 (v := 1) dX9_join_164 rfl (by decide) ?_
        refine vv_isub 166 dX9_join_165 rfl ?_
        obtain ⟨r13, g_r13, hf⟩ := bind_s hf
        refine vv_lald 167 dX9_join_166 rfl t_b12 g_r13 ?_
        refine vv_aload_n 168 dX9_join_167 rfl rfl ?_
        obtain ⟨b14, g_b14, hf⟩ := bind_s hf
        have t_b14 := (ldA_spec g_b14).2
        refine gf_RX9_75 171 dX9_join_168 rfl t_a0 (ldA_spec g_b14).1 ?_
        refine vv_iload 173 dX9_join_171 rfl rfl ?_
        refine vv_iconst 174 (v := 1) dX9_join_173 rfl (by decide) ?_
        refine vv_isub 175 dX9_join_174 rfl ?_
        obtain ⟨r15, g_r15, hf⟩ := bind_s hf
        refine vv_lald 176 dX9_join_175 rfl t_b14 g_r15 ?_
        refine vv_lcmp 177 dX9_join_176 rfl ?_
        refine vv_if_ne 184 180 dX9_join_177 rfl (by decide) (fun c16 => ?_) (fun c16 => ?_)
        · rw [if_pos c16] at hf
          refine vv_iconst 181 (v := 1) dX9_join_180 rfl (by decide) ?_
          refine vv_goto 185 dX9_join_181 (by decide) ?_
          exact VV.lle (v_X9_join_185 t_a0 k124 hk124 hf) (lle_s (lle_s (lle_s (lle_s (lle_s (lle_s (lle_s (lle_n lle_nil))))))))
        · rw [if_neg c16] at hf
          refine vv_iconst 185 (v := 0) dX9_join_184 rfl (by decide) ?_
          exact VV.lle (v_X9_join_185 t_a0 k124 hk124 hf) (lle_s (lle_s (lle_s (lle_s (lle_s (lle_s (lle_s (lle_n lle_nil))))))))

theorem v_X9_join_124 {w : Wo} {K : Kn} {a0 : Nat} {x1 : Int32} {x2 : Int32} {x3 : Int32} {q : (Int32 × Mem)} (t_a0 : K a0 = some (.inl 8)) : ∀ (n : Nat) (m : Mem) (x4 : Int32) (x5 : Int32) (x6 : Int32) (x7 : Int32), f_X9_join_124 K a0 x1 x2 x3 n m x4 x5 x6 x7 = some q → VV w RX9 cX9_join 8 (some .int) rm_X9_join false (QM w K (some (.int q.1)) q.2 0 0) K 124 [some (.ref a0), some (.int x1), none, some (.int x3), some (.int x4), some (.int x5), some (.int x6), some (.int x7)] [] 0 0 m := by
  intro n
  induction n with
  | zero => intro m x4 x5 x6 x7 hf; cases hf
  | succ n ih => intro m x4 x5 x6 x7 hf; exact v_X9_join_124B (a0 := a0) (x1 := x1) (x2 := x2) (x3 := x3) t_a0 (f_X9_join_124 K a0 x1 x2 x3 n) ih hf

set_option maxHeartbeats 4000000 in
theorem v_X9_join_62B {w : Wo} {K : Kn} {a0 : Nat} {x1 : Int32} {x2 : Int32} {x3 : Int32} {q : (Int32 × Mem)} (t_a0 : K a0 = some (.inl 8)) (k62 : Mem → Int32 → Int32 → Int32 → Option (Int32 × Mem)) (hk62 : ∀ (m : Mem) (x4 : Int32) (x5 : Int32) (x6 : Int32), k62 m x4 x5 x6 = some q → VV w RX9 cX9_join 8 (some .int) rm_X9_join false (QM w K (some (.int q.1)) q.2 0 0) K 62 [some (.ref a0), some (.int x1), none, some (.int x3), some (.int x4), some (.int x5), some (.int x6), none] [] 0 0 m) {m : Mem} {x4 : Int32} {x5 : Int32} {x6 : Int32} (hf : f_X9_join_62B K a0 x1 x2 x3 k62 m x4 x5 x6 = some q) : VV w RX9 cX9_join 8 (some .int) rm_X9_join false (QM w K (some (.int q.1)) q.2 0 0) K 62 [some (.ref a0), some (.int x1), none, some (.int x3), some (.int x4), some (.int x5), some (.int x6), none] [] 0 0 m := by
  unfold f_X9_join_62B at hf
  refine vv_iload 64 dX9_join_62 rfl rfl ?_
  refine vv_aload_n 65 dX9_join_64 rfl rfl ?_
  refine gf_RX9_382 68 dX9_join_65 rfl t_a0 ?_
  refine vv_icmp_ge 103 71 dX9_join_68 rfl (by decide) (fun c1 => ?_) (fun c1 => ?_)
  · rw [if_pos c1] at hf
    refine vv_iload 105 dX9_join_103 rfl rfl ?_
    refine vv_sipush 108 (v := 12000) dX9_join_105 rfl (by decide) ?_
    refine vv_icmp_le 114 111 dX9_join_108 rfl (by decide) (fun c2 => ?_) (fun c2 => ?_)
    · rw [if_pos c2] at hf
      refine vv_iload 116 dX9_join_114 rfl rfl ?_
      refine vv_istore 118 (L' := [some (.ref a0), some (.int x1), none, some (.int x3), some (.int x4), some (.int x5), some (.int x5), none]) dX9_join_116 rfl (Nat.le_of_ble_eq_true rfl) rfl ?_
      refine vv_aload_n 119 dX9_join_118 rfl rfl ?_
      refine gf_RX9_382 122 dX9_join_119 rfl t_a0 ?_
      obtain ⟨z3, e_z3, hf⟩ := bd_s hf
      refine vv_istoreE (q := 124) (v := z3) (L' := [some (.ref a0), some (.int x1), none, some (.int x3), some (.int x4), some (.int x5), some (.int x5), some (.int z3)]) e_z3 dX9_join_122 rfl (Nat.le_of_ble_eq_true rfl) rfl ?_
      exact v_X9_join_124 t_a0 FU _ _ _ _ _ hf
    · rw [if_neg c2] at hf
      refine vv_bipush 113 (v := (-4)) dX9_join_111 rfl (by decide) ?_
      obtain rfl := Option.some.inj hf
      exact vv_iret dX9_join_113 rfl
  · rw [if_neg c1] at hf
    refine vv_iload 73 dX9_join_71 rfl rfl ?_
    refine vv_aload_n 74 dX9_join_73 rfl rfl ?_
    refine vv_aload_n 75 dX9_join_74 rfl rfl ?_
    obtain ⟨b4, g_b4, hf⟩ := bind_s hf
    have t_b4 := (ldA_spec g_b4).2
    refine gf_RX9_75 78 dX9_join_75 rfl t_a0 (ldA_spec g_b4).1 ?_
    refine vv_iload 80 dX9_join_78 rfl rfl ?_
    obtain ⟨r5, g_r5, hf⟩ := bind_s hf
    refine vv_lald 81 dX9_join_80 rfl t_b4 g_r5 ?_
    refine vv_l2i 82 dX9_join_81 rfl ?_
    obtain ⟨q6, g_q6, hf⟩ := bind_s hf
    refine vv_callV 85 (st := [.int x5]) (As := [.int ((r5).toInt32)]) (stk2 := [.int q6, .int x5]) (cl2 := 0) (sl2 := 0) dX9_join_82 rfl lk_RX9_328 w_1464 w_55 rfl t_a0 ⟨(Nat.le_of_ble_eq_true rfl), (Nat.le_of_ble_eq_true rfl)⟩ rfl rfl ⟨(Nat.le_of_ble_eq_true rfl), (Nat.le_of_ble_eq_true rfl)⟩ rfl (Nat.le_of_ble_eq_true rfl) rfl rfl rfl rfl (c_X9_placeOf t_a0 g_q6) ?_
    refine vv_iconst 86 (v := (-1)) dX9_join_85 rfl (by decide) ?_
    refine vv_icmp_ne 93 89 dX9_join_86 rfl (by decide) (fun c7 => ?_) (fun c7 => ?_)
    · rw [if_pos c7] at hf
      refine vv_iconst 90 (v := 1) dX9_join_89 rfl (by decide) ?_
      refine vv_goto 94 dX9_join_90 (by decide) ?_
      exact VV.lle (v_X9_join_94 t_a0 k62 hk62 hf) (lle_s (lle_s (lle_s (lle_s (lle_s (lle_n (lle_s (lle_s lle_nil))))))))
    · rw [if_neg c7] at hf
      refine vv_iconst 94 (v := 0) dX9_join_93 rfl (by decide) ?_
      exact VV.lle (v_X9_join_94 t_a0 k62 hk62 hf) (lle_s (lle_s (lle_s (lle_s (lle_s (lle_n (lle_s (lle_s lle_nil))))))))

theorem v_X9_join_62 {w : Wo} {K : Kn} {a0 : Nat} {x1 : Int32} {x2 : Int32} {x3 : Int32} {q : (Int32 × Mem)} (t_a0 : K a0 = some (.inl 8)) : ∀ (n : Nat) (m : Mem) (x4 : Int32) (x5 : Int32) (x6 : Int32), f_X9_join_62 K a0 x1 x2 x3 n m x4 x5 x6 = some q → VV w RX9 cX9_join 8 (some .int) rm_X9_join false (QM w K (some (.int q.1)) q.2 0 0) K 62 [some (.ref a0), some (.int x1), none, some (.int x3), some (.int x4), some (.int x5), some (.int x6), none] [] 0 0 m := by
  intro n
  induction n with
  | zero => intro m x4 x5 x6 hf; cases hf
  | succ n ih => intro m x4 x5 x6 hf; exact v_X9_join_62B (a0 := a0) (x1 := x1) (x2 := x2) (x3 := x3) t_a0 (f_X9_join_62 K a0 x1 x2 x3 n) ih hf

set_option maxHeartbeats 4000000 in
theorem v_X9_join_0 {w : Wo} {K : Kn} {a0 : Nat} {x1 : Int32} {x2 : Int32} {x3 : Int32} {q : (Int32 × Mem)} (t_a0 : K a0 = some (.inl 8)) {m : Mem} (hf : f_X9_join K a0 x1 x2 x3 m = some q) : VV w RX9 cX9_join 8 (some .int) rm_X9_join false (QM w K (some (.int q.1)) q.2 0 0) K 0 [some (.ref a0), some (.int x1), some (.int x2), some (.int x3), none, none, none, none] [] 0 0 m := by
  unfold f_X9_join at hf
  refine vv_aload_n 1 dX9_join_0 rfl rfl ?_
  refine vv_iload_n 2 dX9_join_1 rfl rfl ?_
  refine vv_iload_n 3 dX9_join_2 rfl rfl ?_
  obtain ⟨q1, g_q1, hf⟩ := bind_s hf
  refine vv_callV 6 (st := []) (As := [.int x1, .int x2]) (stk2 := [.int q1]) (cl2 := 0) (sl2 := 0) dX9_join_3 rfl lk_RX9_385 w_1567 w_59 rfl t_a0 ⟨(Nat.le_of_ble_eq_true rfl), (Nat.le_of_ble_eq_true rfl)⟩ rfl rfl ⟨(Nat.le_of_ble_eq_true rfl), (Nat.le_of_ble_eq_true rfl)⟩ rfl (Nat.le_of_ble_eq_true rfl) rfl rfl rfl rfl (c_X9_areTwo t_a0 g_q1) ?_
  refine vv_if_eq 21 9 dX9_join_6 rfl (by decide) (fun c2 => ?_) (fun c2 => ?_)
  · rw [if_pos c2] at hf
    refine vv_bipush 23 (v := (-2)) dX9_join_21 rfl (by decide) ?_
    obtain rfl := Option.some.inj hf
    exact vv_iret dX9_join_23 rfl
  · rw [if_neg c2] at hf
    refine vv_iload_n 10 dX9_join_9 rfl rfl ?_
    refine vv_i2l 11 dX9_join_10 rfl ?_
    refine vv_lconst 12 (v := 0) dX9_join_11 rfl (by decide) ?_
    refine vv_ldc2 15 (v := 3) dX9_join_12 rfl w_1204 ?_
    obtain ⟨q3, g_q3, hf⟩ := bind_s hf
    refine vv_callS 18 (st := []) (As := [.long ((x3).toInt64), .long (0 : Int64), .long (3 : Int64)]) (stk2 := [.int q3]) (cl2 := 0) (sl2 := 0) dX9_join_15 rfl lk_RX9_83 w_1206 ⟨(Nat.le_of_ble_eq_true rfl), (Nat.le_of_ble_eq_true rfl)⟩ rfl rfl ⟨(Nat.le_of_ble_eq_true rfl), (Nat.le_of_ble_eq_true rfl)⟩ rfl (Nat.le_of_ble_eq_true rfl) rfl rfl rfl rfl (c_X9_in g_q3) ?_
    refine vv_if_ne 24 21 dX9_join_18 rfl (by decide) (fun c4 => ?_) (fun c4 => ?_)
    · rw [if_pos c4] at hf
      refine vv_bipush 23 (v := (-2)) dX9_join_21 rfl (by decide) ?_
      obtain rfl := Option.some.inj hf
      exact vv_iret dX9_join_23 rfl
    · rw [if_neg c4] at hf
      refine vv_aload_n 25 dX9_join_24 rfl rfl ?_
      refine vv_iload_n 26 dX9_join_25 rfl rfl ?_
      obtain ⟨q5, g_q5, hf⟩ := bind_s hf
      refine vv_callV 29 (st := []) (As := [.int x1]) (stk2 := [.int q5.1]) (cl2 := 0) (sl2 := 0) dX9_join_26 rfl lk_RX9_294 w_1361 w_43 rfl t_a0 ⟨(Nat.le_of_ble_eq_true rfl), (Nat.le_of_ble_eq_true rfl)⟩ rfl rfl ⟨(Nat.le_of_ble_eq_true rfl), (Nat.le_of_ble_eq_true rfl)⟩ rfl (Nat.le_of_ble_eq_true rfl) rfl rfl rfl rfl (c_X9_hasBroken t_a0 g_q5) ?_
      refine vv_if_ne 40 32 dX9_join_29 rfl (by decide) (fun c6 => ?_) (fun c6 => ?_)
      · rw [if_pos c6] at hf
        refine vv_aload_n 33 dX9_join_32 rfl rfl ?_
        refine vv_iload_n 34 dX9_join_33 rfl rfl ?_
        obtain ⟨q7, g_q7, hf⟩ := bind_s hf
        refine vv_callV 37 (st := []) (As := [.int x2]) (stk2 := [.int q7.1]) (cl2 := 0) (sl2 := 0) dX9_join_34 rfl lk_RX9_294 w_1361 w_43 rfl t_a0 ⟨(Nat.le_of_ble_eq_true rfl), (Nat.le_of_ble_eq_true rfl)⟩ rfl rfl ⟨(Nat.le_of_ble_eq_true rfl), (Nat.le_of_ble_eq_true rfl)⟩ rfl (Nat.le_of_ble_eq_true rfl) rfl rfl rfl rfl (c_X9_hasBroken t_a0 g_q7) ?_
        refine vv_if_eq 43 40 dX9_join_37 rfl (by decide) (fun c8 => ?_) (fun c8 => ?_)
        · rw [if_pos c8] at hf
          refine vv_aload_n 44 dX9_join_43 rfl rfl ?_
          refine vv_iload_n 45 dX9_join_44 rfl rfl ?_
          refine vv_iload_n 46 dX9_join_45 rfl rfl ?_
          obtain ⟨q9, g_q9, hf⟩ := bind_s hf
          refine vv_callV 49 (st := []) (As := [.int x1, .int x2]) (stk2 := []) (cl2 := 0) (sl2 := 0) dX9_join_46 rfl lk_RX9_388 w_1571 w_60 rfl t_a0 ⟨(Nat.le_of_ble_eq_true rfl), (Nat.le_of_ble_eq_true rfl)⟩ rfl rfl ⟨(Nat.le_of_ble_eq_true rfl), (Nat.le_of_ble_eq_true rfl)⟩ rfl (Nat.le_of_ble_eq_true rfl) rfl rfl rfl rfl (c_X9_gathersTwo t_a0 g_q9) ?_
          refine vv_aload_n 50 dX9_join_49 rfl rfl ?_
          refine gf_RX9_248 53 dX9_join_50 rfl t_a0 ?_
          obtain ⟨z10, e_z10, hf⟩ := bd_s hf
          refine vv_istoreE (q := 55) (v := z10) (L' := [some (.ref a0), some (.int x1), some (.int x2), some (.int x3), some (.int z10), none, none, none]) e_z10 dX9_join_53 rfl (Nat.le_of_ble_eq_true rfl) rfl ?_
          refine vv_iload 57 dX9_join_55 rfl rfl ?_
          refine vv_istore 59 (L' := [some (.ref a0), some (.int x1), some (.int x2), some (.int x3), some (.int z10), some (.int z10), none, none]) dX9_join_57 rfl (Nat.le_of_ble_eq_true rfl) rfl ?_
          refine vv_iconst 60 (v := 0) dX9_join_59 rfl (by decide) ?_
          refine vv_istore 62 (L' := [some (.ref a0), some (.int x1), some (.int x2), some (.int x3), some (.int z10), some (.int z10), some (.int (0 : Int32)), none]) dX9_join_60 rfl (Nat.le_of_ble_eq_true rfl) rfl ?_
          exact VV.lle (v_X9_join_62 t_a0 FU _ _ _ _ hf) (lle_s (lle_s (lle_n (lle_s (lle_s (lle_s (lle_s (lle_s lle_nil))))))))
        · rw [if_neg c8] at hf
          refine vv_bipush 42 (v := (-6)) dX9_join_40 rfl (by decide) ?_
          obtain rfl := Option.some.inj hf
          exact vv_iret dX9_join_42 rfl
      · rw [if_neg c6] at hf
        refine vv_bipush 42 (v := (-6)) dX9_join_40 rfl (by decide) ?_
        obtain rfl := Option.some.inj hf
        exact vv_iret dX9_join_42 rfl

theorem c_X9_join {w : Wo} {K : Kn} {a0 : Nat} {x1 : Int32} {x2 : Int32} {x3 : Int32} {q : (Int32 × Mem)} {m : Mem} (t_a0 : K a0 = some (.inl 8)) (hf : F_X9_join K m a0 x1 x2 x3 = some q) : MM w K K yX9_join cX9_join 8 (some .int) rm_X9_join [.ref a0, .int x1, .int x2, .int x3] m (some (.int q.1)) q.2 0 0 :=
  mm_of (ini := false) (n := 4) (plainFor_of_name (by decide)) rfl (fun h => by first | rfl | cases h) (Nat.le_of_ble_eq_true rfl) rfl (v_X9_join_0 t_a0 hf)
