/-! ===== the walks ===== -/
abbrev rm_X9_packs : Room := { frames := 6, cells := 0, slots := 0, locals := 144 }
abbrev rm_X9_copiesTo : Room := { frames := 0, cells := 0, slots := 0, locals := 0 }
abbrev rm_X9_lays : Room := { frames := 7, cells := 0, slots := 0, locals := 166 }
abbrev rm_X9_repack : Room := { frames := 8, cells := 0, slots := 0, locals := 192 }
abbrev rm_X9_merge : Room := { frames := 9, cells := 0, slots := 0, locals := 214 }
abbrev rm_X9_bytesOf : Room := { frames := 0, cells := 0, slots := 0, locals := 0 }
abbrev rm_X9_count : Room := { frames := 8, cells := 0, slots := 0, locals := 192 }
abbrev rm_X9_isBlock : Room := { frames := 2, cells := 0, slots := 0, locals := 46 }
abbrev rm_X9_block : Room := { frames := 7, cells := 0, slots := 0, locals := 168 }
abbrev rm_X9_octet : Room := { frames := 3, cells := 0, slots := 0, locals := 68 }
abbrev rm_X9_fault : Room := { frames := 6, cells := 0, slots := 0, locals := 147 }
abbrev rm_X9_damage : Room := { frames := 3, cells := 0, slots := 0, locals := 68 }
abbrev rm_X9_isAsked : Room := { frames := 2, cells := 0, slots := 0, locals := 46 }
abbrev rm_X9_placeOf : Room := { frames := 1, cells := 0, slots := 0, locals := 25 }
abbrev rm_X9_has : Room := { frames := 8, cells := 0, slots := 0, locals := 192 }
abbrev rm_X9_at : Room := { frames := 8, cells := 0, slots := 0, locals := 192 }
abbrev rm_X9_nearest : Room := { frames := 8, cells := 0, slots := 0, locals := 192 }
abbrev rm_X9_point : Room := { frames := 8, cells := 0, slots := 0, locals := 192 }
abbrev rm_X9_isSpan : Room := { frames := 2, cells := 0, slots := 0, locals := 46 }
abbrev rm_X9_opened : Room := { frames := 7, cells := 0, slots := 0, locals := 168 }
abbrev rm_X9_laysSpan : Room := { frames := 8, cells := 0, slots := 0, locals := 192 }
abbrev rm_X9_isNumber : Room := { frames := 0, cells := 0, slots := 0, locals := 0 }
abbrev rm_X9_span : Room := { frames := 9, cells := 0, slots := 0, locals := 215 }
set_option maxHeartbeats 4000000 in
theorem v_X9_packs_8B {w : Wo} {K : Kn} {a0 : Nat} {x1 : Int32} {q : (Int32 × Mem)} (t_a0 : K a0 = some (.inl 8)) (k8 : Mem → Int32 → Option (Int32 × Mem)) (hk8 : ∀ (m : Mem) (x2 : Int32), k8 m x2 = some q → VV w RX9 cX9_packs 3 (some .boolean) rm_X9_packs false (QM w K (some (.int q.1)) q.2 0 0) K 8 [some (.ref a0), none, some (.int x2)] [] 0 0 m) {m : Mem} {x2 : Int32} (hf : f_X9_packs_8B K a0 x1 k8 m x2 = some q) : VV w RX9 cX9_packs 3 (some .boolean) rm_X9_packs false (QM w K (some (.int q.1)) q.2 0 0) K 8 [some (.ref a0), none, some (.int x2)] [] 0 0 m := by
  unfold f_X9_packs_8B at hf
  refine vv_iload_n 9 dX9_packs_8 rfl rfl ?_
  refine vv_aload_n 10 dX9_packs_9 rfl rfl ?_
  refine gf_RX9_248 13 dX9_packs_10 rfl t_a0 ?_
  refine vv_icmp_ge 44 16 dX9_packs_13 rfl (by decide) (fun c1 => ?_) (fun c1 => ?_)
  · rw [if_pos c1] at hf
    refine vv_iconst 45 (v := 1) dX9_packs_44 rfl (by decide) ?_
    obtain rfl := Option.some.inj hf
    exact vv_zret dX9_packs_45 rfl (Or.inr rfl)
  · rw [if_neg c1] at hf
    refine vv_aload_n 17 dX9_packs_16 rfl rfl ?_
    refine vv_iconst 18 (v := 4) dX9_packs_17 rfl (by decide) ?_
    refine vv_aload_n 19 dX9_packs_18 rfl rfl ?_
    obtain ⟨b2, g_b2, hf⟩ := bind_s hf
    have t_b2 := (ldA_spec g_b2).2
    refine gf_RX9_66 22 dX9_packs_19 rfl t_a0 (ldA_spec g_b2).1 ?_
    refine vv_iload_n 23 dX9_packs_22 rfl rfl ?_
    obtain ⟨r3, g_r3, hf⟩ := bind_s hf
    refine vv_lald 24 dX9_packs_23 rfl t_b2 g_r3 ?_
    refine vv_aload_n 25 dX9_packs_24 rfl rfl ?_
    obtain ⟨b4, g_b4, hf⟩ := bind_s hf
    have t_b4 := (ldA_spec g_b4).2
    refine gf_RX9_69 28 dX9_packs_25 rfl t_a0 (ldA_spec g_b4).1 ?_
    refine vv_iload_n 29 dX9_packs_28 rfl rfl ?_
    obtain ⟨r5, g_r5, hf⟩ := bind_s hf
    refine vv_lald 30 dX9_packs_29 rfl t_b4 g_r5 ?_
    obtain ⟨q6, g_q6, hf⟩ := bind_s hf
    refine vv_callV 33 (st := []) (As := [.int (4 : Int32), .long r3, .long r5]) (stk2 := [.int q6.1]) (cl2 := 0) (sl2 := 0) dX9_packs_30 rfl lk_RX9_268 w_1310 w_37 rfl t_a0 ⟨(Nat.le_of_ble_eq_true rfl), (Nat.le_of_ble_eq_true rfl)⟩ rfl rfl ⟨(Nat.le_of_ble_eq_true rfl), (Nat.le_of_ble_eq_true rfl)⟩ rfl (Nat.le_of_ble_eq_true rfl) rfl rfl rfl rfl (c_X9_comes t_a0 g_q6) ?_
    refine vv_if_ne 38 36 dX9_packs_33 rfl (by decide) (fun c7 => ?_) (fun c7 => ?_)
    · rw [if_pos c7] at hf
      refine vv_iconst 37 (v := 0) dX9_packs_36 rfl (by decide) ?_
      obtain rfl := Option.some.inj hf
      exact vv_zret dX9_packs_37 rfl (Or.inl rfl)
    · rw [if_neg c7] at hf
      obtain ⟨z8, e_z8, hf⟩ := bd_s hf
      refine vv_iincE (q := 41) (v := z8) (c := 1) (L' := [some (.ref a0), none, some (.int z8)]) e_z8 dX9_packs_38 rfl rfl (by decide) (Nat.le_of_ble_eq_true rfl) rfl ?_
      refine vv_goto 8 dX9_packs_41 (by decide) ?_
      exact hk8 _ _ hf

theorem v_X9_packs_8 {w : Wo} {K : Kn} {a0 : Nat} {x1 : Int32} {q : (Int32 × Mem)} (t_a0 : K a0 = some (.inl 8)) : ∀ (n : Nat) (m : Mem) (x2 : Int32), f_X9_packs_8 K a0 x1 n m x2 = some q → VV w RX9 cX9_packs 3 (some .boolean) rm_X9_packs false (QM w K (some (.int q.1)) q.2 0 0) K 8 [some (.ref a0), none, some (.int x2)] [] 0 0 m := by
  intro n
  induction n with
  | zero => intro m x2 hf; cases hf
  | succ n ih => intro m x2 hf; exact v_X9_packs_8B (a0 := a0) (x1 := x1) t_a0 (f_X9_packs_8 K a0 x1 n) ih hf

set_option maxHeartbeats 4000000 in
theorem v_X9_packs_0 {w : Wo} {K : Kn} {a0 : Nat} {x1 : Int32} {q : (Int32 × Mem)} (t_a0 : K a0 = some (.inl 8)) {m : Mem} (hf : f_X9_packs K a0 x1 m = some q) : VV w RX9 cX9_packs 3 (some .boolean) rm_X9_packs false (QM w K (some (.int q.1)) q.2 0 0) K 0 [some (.ref a0), some (.int x1), none] [] 0 0 m := by
  unfold f_X9_packs at hf
  refine vv_aload_n 1 dX9_packs_0 rfl rfl ?_
  refine vv_iconst 2 (v := 4) dX9_packs_1 rfl (by decide) ?_
  refine vv_iload_n 3 dX9_packs_2 rfl rfl ?_
  obtain ⟨q1, g_q1, hf⟩ := bind_s hf
  refine vv_callV 6 (st := []) (As := [.int (4 : Int32), .int x1]) (stk2 := []) (cl2 := 0) (sl2 := 0) dX9_packs_3 rfl lk_RX9_103 w_1212 w_20 rfl t_a0 ⟨(Nat.le_of_ble_eq_true rfl), (Nat.le_of_ble_eq_true rfl)⟩ rfl rfl ⟨(Nat.le_of_ble_eq_true rfl), (Nat.le_of_ble_eq_true rfl)⟩ rfl (Nat.le_of_ble_eq_true rfl) rfl rfl rfl rfl (c_X9_clears t_a0 g_q1) ?_
  refine vv_iconst 7 (v := 0) dX9_packs_6 rfl (by decide) ?_
  refine vv_istore_n 8 (L' := [some (.ref a0), some (.int x1), some (.int (0 : Int32))]) dX9_packs_7 rfl (Nat.le_of_ble_eq_true rfl) rfl ?_
  exact VV.lle (v_X9_packs_8 t_a0 FU _ _ hf) (lle_s (lle_n (lle_s lle_nil)))

theorem c_X9_packs {w : Wo} {K : Kn} {a0 : Nat} {x1 : Int32} {q : (Int32 × Mem)} {m : Mem} (t_a0 : K a0 = some (.inl 8)) (hf : F_X9_packs K m a0 x1 = some q) : MM w K K yX9_packs cX9_packs 3 (some .boolean) rm_X9_packs [.ref a0, .int x1] m (some (.int q.1)) q.2 0 0 :=
  mm_of (ini := false) (n := 1) (plainFor_of_name (by decide)) rfl (fun h => by first | rfl | cases h) (Nat.le_of_ble_eq_true rfl) rfl (v_X9_packs_0 t_a0 hf)

set_option maxHeartbeats 4000000 in
theorem v_X9_copiesTo_213B {w : Wo} {K : Kn} {a0 : Nat} {x1 : Int32} {x2 : Int32} {q : Mem} (t_a0 : K a0 = some (.inl 8)) (k213 : Mem → Int32 → Option Mem) (hk213 : ∀ (m : Mem) (x3 : Int32), k213 m x3 = some q → VV w RX9 cX9_copiesTo 4 none rm_X9_copiesTo false (QM w K none q 0 0) K 213 [some (.ref a0), some (.int x1), some (.int x2), some (.int x3)] [] 0 0 m) {m : Mem} {x3 : Int32} (hf : f_X9_copiesTo_213B K a0 x1 x2 k213 m x3 = some q) : VV w RX9 cX9_copiesTo 4 none rm_X9_copiesTo false (QM w K none q 0 0) K 213 [some (.ref a0), some (.int x1), some (.int x2), some (.int x3)] [] 0 0 m := by
  unfold f_X9_copiesTo_213B at hf
  refine vv_iload_n 214 dX9_copiesTo_213 rfl rfl ?_
  refine vv_bipush 216 (v := 20) dX9_copiesTo_214 rfl (by decide) ?_
  refine vv_icmp_ge 269 219 dX9_copiesTo_216 rfl (by decide) (fun c1 => ?_) (fun c1 => ?_)
  · rw [if_pos c1] at hf
    obtain rfl := Option.some.inj hf
    exact vv_vret dX9_copiesTo_269 rfl
  · rw [if_neg c1] at hf
    refine vv_aload_n 220 dX9_copiesTo_219 rfl rfl ?_
    obtain ⟨b2, g_b2, hf⟩ := bind_s hf
    have t_b2 := (ldA_spec g_b2).2
    refine gf_RX9_41 223 dX9_copiesTo_220 rfl t_a0 (ldA_spec g_b2).1 ?_
    refine vv_bipush 225 (v := 20) dX9_copiesTo_223 rfl (by decide) ?_
    refine vv_iload_n 226 dX9_copiesTo_225 rfl rfl ?_
    refine vv_imul 227 dX9_copiesTo_226 rfl ?_
    refine vv_iload_n 228 dX9_copiesTo_227 rfl rfl ?_
    refine vv_iadd 229 dX9_copiesTo_228 rfl ?_
    refine vv_aload_n 230 dX9_copiesTo_229 rfl rfl ?_
    obtain ⟨b3, g_b3, hf⟩ := bind_s hf
    have t_b3 := (ldA_spec g_b3).2
    refine gf_RX9_41 233 dX9_copiesTo_230 rfl t_a0 (ldA_spec g_b3).1 ?_
    refine vv_bipush 235 (v := 20) dX9_copiesTo_233 rfl (by decide) ?_
    refine vv_iload_n 236 dX9_copiesTo_235 rfl rfl ?_
    refine vv_imul 237 dX9_copiesTo_236 rfl ?_
    refine vv_iload_n 238 dX9_copiesTo_237 rfl rfl ?_
    refine vv_iadd 239 dX9_copiesTo_238 rfl ?_
    obtain ⟨r4, g_r4, hf⟩ := bind_s hf
    refine vv_iald 240 dX9_copiesTo_239 rfl t_b3 g_r4 ?_
    obtain ⟨m5, g_m5, hf⟩ := bind_s hf
    refine vv_iast 241 dX9_copiesTo_240 rfl t_b2 g_m5 ?_
    refine vv_aload_n 242 dX9_copiesTo_241 rfl rfl ?_
    obtain ⟨b6, g_b6, hf⟩ := bind_s hf
    have t_b6 := (ldA_spec g_b6).2
    refine gf_RX9_44 245 dX9_copiesTo_242 rfl t_a0 (ldA_spec g_b6).1 ?_
    refine vv_bipush 247 (v := 20) dX9_copiesTo_245 rfl (by decide) ?_
    refine vv_iload_n 248 dX9_copiesTo_247 rfl rfl ?_
    refine vv_imul 249 dX9_copiesTo_248 rfl ?_
    refine vv_iload_n 250 dX9_copiesTo_249 rfl rfl ?_
    refine vv_iadd 251 dX9_copiesTo_250 rfl ?_
    refine vv_aload_n 252 dX9_copiesTo_251 rfl rfl ?_
    obtain ⟨b7, g_b7, hf⟩ := bind_s hf
    have t_b7 := (ldA_spec g_b7).2
    refine gf_RX9_44 255 dX9_copiesTo_252 rfl t_a0 (ldA_spec g_b7).1 ?_
    refine vv_bipush 257 (v := 20) dX9_copiesTo_255 rfl (by decide) ?_
    refine vv_iload_n 258 dX9_copiesTo_257 rfl rfl ?_
    refine vv_imul 259 dX9_copiesTo_258 rfl ?_
    refine vv_iload_n 260 dX9_copiesTo_259 rfl rfl ?_
    refine vv_iadd 261 dX9_copiesTo_260 rfl ?_
    obtain ⟨r8, g_r8, hf⟩ := bind_s hf
    refine vv_lald 262 dX9_copiesTo_261 rfl t_b7 g_r8 ?_
    obtain ⟨m9, g_m9, hf⟩ := bind_s hf
    refine vv_last 263 dX9_copiesTo_262 rfl t_b6 g_m9 ?_
    obtain ⟨z10, e_z10, hf⟩ := bd_s hf
    refine vv_iincE (q := 266) (v := z10) (c := 1) (L' := [some (.ref a0), some (.int x1), some (.int x2), some (.int z10)]) e_z10 dX9_copiesTo_263 rfl rfl (by decide) (Nat.le_of_ble_eq_true rfl) rfl ?_
    refine vv_goto 213 dX9_copiesTo_266 (by decide) ?_
    exact hk213 _ _ hf

theorem v_X9_copiesTo_213 {w : Wo} {K : Kn} {a0 : Nat} {x1 : Int32} {x2 : Int32} {q : Mem} (t_a0 : K a0 = some (.inl 8)) : ∀ (n : Nat) (m : Mem) (x3 : Int32), f_X9_copiesTo_213 K a0 x1 x2 n m x3 = some q → VV w RX9 cX9_copiesTo 4 none rm_X9_copiesTo false (QM w K none q 0 0) K 213 [some (.ref a0), some (.int x1), some (.int x2), some (.int x3)] [] 0 0 m := by
  intro n
  induction n with
  | zero => intro m x3 hf; cases hf
  | succ n ih => intro m x3 hf; exact v_X9_copiesTo_213B (a0 := a0) (x1 := x1) (x2 := x2) t_a0 (f_X9_copiesTo_213 K a0 x1 x2 n) ih hf

set_option maxHeartbeats 4000000 in
theorem v_X9_copiesTo_89B {w : Wo} {K : Kn} {a0 : Nat} {x1 : Int32} {x2 : Int32} {q : Mem} (t_a0 : K a0 = some (.inl 8)) (k89 : Mem → Int32 → Option Mem) (hk89 : ∀ (m : Mem) (x3 : Int32), k89 m x3 = some q → VV w RX9 cX9_copiesTo 4 none rm_X9_copiesTo false (QM w K none q 0 0) K 89 [some (.ref a0), some (.int x1), some (.int x2), some (.int x3)] [] 0 0 m) {m : Mem} {x3 : Int32} (hf : f_X9_copiesTo_89B K a0 x1 x2 k89 m x3 = some q) : VV w RX9 cX9_copiesTo 4 none rm_X9_copiesTo false (QM w K none q 0 0) K 89 [some (.ref a0), some (.int x1), some (.int x2), some (.int x3)] [] 0 0 m := by
  unfold f_X9_copiesTo_89B at hf
  refine vv_iload_n 90 dX9_copiesTo_89 rfl rfl ?_
  refine vv_bipush 92 (v := 16) dX9_copiesTo_90 rfl (by decide) ?_
  refine vv_icmp_ge 211 95 dX9_copiesTo_92 rfl (by decide) (fun c1 => ?_) (fun c1 => ?_)
  · rw [if_pos c1] at hf
    refine vv_iconst 212 (v := 0) dX9_copiesTo_211 rfl (by decide) ?_
    refine vv_istore_n 213 (L' := [some (.ref a0), some (.int x1), some (.int x2), some (.int (0 : Int32))]) dX9_copiesTo_212 rfl (Nat.le_of_ble_eq_true rfl) rfl ?_
    exact v_X9_copiesTo_213 t_a0 FU _ _ hf
  · rw [if_neg c1] at hf
    refine vv_aload_n 96 dX9_copiesTo_95 rfl rfl ?_
    obtain ⟨b2, g_b2, hf⟩ := bind_s hf
    have t_b2 := (ldA_spec g_b2).2
    refine gf_RX9_22 99 dX9_copiesTo_96 rfl t_a0 (ldA_spec g_b2).1 ?_
    refine vv_bipush 101 (v := 16) dX9_copiesTo_99 rfl (by decide) ?_
    refine vv_iload_n 102 dX9_copiesTo_101 rfl rfl ?_
    refine vv_imul 103 dX9_copiesTo_102 rfl ?_
    refine vv_iload_n 104 dX9_copiesTo_103 rfl rfl ?_
    refine vv_iadd 105 dX9_copiesTo_104 rfl ?_
    refine vv_aload_n 106 dX9_copiesTo_105 rfl rfl ?_
    obtain ⟨b3, g_b3, hf⟩ := bind_s hf
    have t_b3 := (ldA_spec g_b3).2
    refine gf_RX9_22 109 dX9_copiesTo_106 rfl t_a0 (ldA_spec g_b3).1 ?_
    refine vv_bipush 111 (v := 16) dX9_copiesTo_109 rfl (by decide) ?_
    refine vv_iload_n 112 dX9_copiesTo_111 rfl rfl ?_
    refine vv_imul 113 dX9_copiesTo_112 rfl ?_
    refine vv_iload_n 114 dX9_copiesTo_113 rfl rfl ?_
    refine vv_iadd 115 dX9_copiesTo_114 rfl ?_
    obtain ⟨r4, g_r4, hf⟩ := bind_s hf
    refine vv_iald 116 dX9_copiesTo_115 rfl t_b3 g_r4 ?_
    obtain ⟨m5, g_m5, hf⟩ := bind_s hf
    refine vv_iast 117 dX9_copiesTo_116 rfl t_b2 g_m5 ?_
    refine vv_aload_n 118 dX9_copiesTo_117 rfl rfl ?_
    obtain ⟨b6, g_b6, hf⟩ := bind_s hf
    have t_b6 := (ldA_spec g_b6).2
    refine gf_RX9_25 121 dX9_copiesTo_118 rfl t_a0 (ldA_spec g_b6).1 ?_
    refine vv_bipush 123 (v := 16) dX9_copiesTo_121 rfl (by decide) ?_
    refine vv_iload_n 124 dX9_copiesTo_123 rfl rfl ?_
    refine vv_imul 125 dX9_copiesTo_124 rfl ?_
    refine vv_iload_n 126 dX9_copiesTo_125 rfl rfl ?_
    refine vv_iadd 127 dX9_copiesTo_126 rfl ?_
    refine vv_aload_n 128 dX9_copiesTo_127 rfl rfl ?_
    obtain ⟨b7, g_b7, hf⟩ := bind_s hf
    have t_b7 := (ldA_spec g_b7).2
    refine gf_RX9_25 131 dX9_copiesTo_128 rfl t_a0 (ldA_spec g_b7).1 ?_
    refine vv_bipush 133 (v := 16) dX9_copiesTo_131 rfl (by decide) ?_
    refine vv_iload_n 134 dX9_copiesTo_133 rfl rfl ?_
    refine vv_imul 135 dX9_copiesTo_134 rfl ?_
    refine vv_iload_n 136 dX9_copiesTo_135 rfl rfl ?_
    refine vv_iadd 137 dX9_copiesTo_136 rfl ?_
    obtain ⟨r8, g_r8, hf⟩ := bind_s hf
    refine vv_iald 138 dX9_copiesTo_137 rfl t_b7 g_r8 ?_
    obtain ⟨m9, g_m9, hf⟩ := bind_s hf
    refine vv_iast 139 dX9_copiesTo_138 rfl t_b6 g_m9 ?_
    refine vv_aload_n 140 dX9_copiesTo_139 rfl rfl ?_
    obtain ⟨b10, g_b10, hf⟩ := bind_s hf
    have t_b10 := (ldA_spec g_b10).2
    refine gf_RX9_28 143 dX9_copiesTo_140 rfl t_a0 (ldA_spec g_b10).1 ?_
    refine vv_bipush 145 (v := 16) dX9_copiesTo_143 rfl (by decide) ?_
    refine vv_iload_n 146 dX9_copiesTo_145 rfl rfl ?_
    refine vv_imul 147 dX9_copiesTo_146 rfl ?_
    refine vv_iload_n 148 dX9_copiesTo_147 rfl rfl ?_
    refine vv_iadd 149 dX9_copiesTo_148 rfl ?_
    refine vv_aload_n 150 dX9_copiesTo_149 rfl rfl ?_
    obtain ⟨b11, g_b11, hf⟩ := bind_s hf
    have t_b11 := (ldA_spec g_b11).2
    refine gf_RX9_28 153 dX9_copiesTo_150 rfl t_a0 (ldA_spec g_b11).1 ?_
    refine vv_bipush 155 (v := 16) dX9_copiesTo_153 rfl (by decide) ?_
    refine vv_iload_n 156 dX9_copiesTo_155 rfl rfl ?_
    refine vv_imul 157 dX9_copiesTo_156 rfl ?_
    refine vv_iload_n 158 dX9_copiesTo_157 rfl rfl ?_
    refine vv_iadd 159 dX9_copiesTo_158 rfl ?_
    obtain ⟨r12, g_r12, hf⟩ := bind_s hf
    refine vv_zald 160 dX9_copiesTo_159 rfl t_b11 g_r12 ?_
    obtain ⟨m13, g_m13, hf⟩ := bind_s hf
    refine vv_zast 161 dX9_copiesTo_160 rfl t_b10 g_m13 ?_
    refine vv_aload_n 162 dX9_copiesTo_161 rfl rfl ?_
    obtain ⟨b14, g_b14, hf⟩ := bind_s hf
    have t_b14 := (ldA_spec g_b14).2
    refine gf_RX9_32 165 dX9_copiesTo_162 rfl t_a0 (ldA_spec g_b14).1 ?_
    refine vv_bipush 167 (v := 16) dX9_copiesTo_165 rfl (by decide) ?_
    refine vv_iload_n 168 dX9_copiesTo_167 rfl rfl ?_
    refine vv_imul 169 dX9_copiesTo_168 rfl ?_
    refine vv_iload_n 170 dX9_copiesTo_169 rfl rfl ?_
    refine vv_iadd 171 dX9_copiesTo_170 rfl ?_
    refine vv_aload_n 172 dX9_copiesTo_171 rfl rfl ?_
    obtain ⟨b15, g_b15, hf⟩ := bind_s hf
    have t_b15 := (ldA_spec g_b15).2
    refine gf_RX9_32 175 dX9_copiesTo_172 rfl t_a0 (ldA_spec g_b15).1 ?_
    refine vv_bipush 177 (v := 16) dX9_copiesTo_175 rfl (by decide) ?_
    refine vv_iload_n 178 dX9_copiesTo_177 rfl rfl ?_
    refine vv_imul 179 dX9_copiesTo_178 rfl ?_
    refine vv_iload_n 180 dX9_copiesTo_179 rfl rfl ?_
    refine vv_iadd 181 dX9_copiesTo_180 rfl ?_
    obtain ⟨r16, g_r16, hf⟩ := bind_s hf
    refine vv_iald 182 dX9_copiesTo_181 rfl t_b15 g_r16 ?_
    obtain ⟨m17, g_m17, hf⟩ := bind_s hf
    refine vv_iast 183 dX9_copiesTo_182 rfl t_b14 g_m17 ?_
    refine vv_aload_n 184 dX9_copiesTo_183 rfl rfl ?_
    obtain ⟨b18, g_b18, hf⟩ := bind_s hf
    have t_b18 := (ldA_spec g_b18).2
    refine gf_RX9_35 187 dX9_copiesTo_184 rfl t_a0 (ldA_spec g_b18).1 ?_
    refine vv_bipush 189 (v := 16) dX9_copiesTo_187 rfl (by decide) ?_
    refine vv_iload_n 190 dX9_copiesTo_189 rfl rfl ?_
    refine vv_imul 191 dX9_copiesTo_190 rfl ?_
    refine vv_iload_n 192 dX9_copiesTo_191 rfl rfl ?_
    refine vv_iadd 193 dX9_copiesTo_192 rfl ?_
    refine vv_aload_n 194 dX9_copiesTo_193 rfl rfl ?_
    obtain ⟨b19, g_b19, hf⟩ := bind_s hf
    have t_b19 := (ldA_spec g_b19).2
    refine gf_RX9_35 197 dX9_copiesTo_194 rfl t_a0 (ldA_spec g_b19).1 ?_
    refine vv_bipush 199 (v := 16) dX9_copiesTo_197 rfl (by decide) ?_
    refine vv_iload_n 200 dX9_copiesTo_199 rfl rfl ?_
    refine vv_imul 201 dX9_copiesTo_200 rfl ?_
    refine vv_iload_n 202 dX9_copiesTo_201 rfl rfl ?_
    refine vv_iadd 203 dX9_copiesTo_202 rfl ?_
    obtain ⟨r20, g_r20, hf⟩ := bind_s hf
    refine vv_iald 204 dX9_copiesTo_203 rfl t_b19 g_r20 ?_
    obtain ⟨m21, g_m21, hf⟩ := bind_s hf
    refine vv_iast 205 dX9_copiesTo_204 rfl t_b18 g_m21 ?_
    obtain ⟨z22, e_z22, hf⟩ := bd_s hf
    refine vv_iincE (q := 208) (v := z22) (c := 1) (L' := [some (.ref a0), some (.int x1), some (.int x2), some (.int z22)]) e_z22 dX9_copiesTo_205 rfl rfl (by decide) (Nat.le_of_ble_eq_true rfl) rfl ?_
    refine vv_goto 89 dX9_copiesTo_208 (by decide) ?_
    exact hk89 _ _ hf

theorem v_X9_copiesTo_89 {w : Wo} {K : Kn} {a0 : Nat} {x1 : Int32} {x2 : Int32} {q : Mem} (t_a0 : K a0 = some (.inl 8)) : ∀ (n : Nat) (m : Mem) (x3 : Int32), f_X9_copiesTo_89 K a0 x1 x2 n m x3 = some q → VV w RX9 cX9_copiesTo 4 none rm_X9_copiesTo false (QM w K none q 0 0) K 89 [some (.ref a0), some (.int x1), some (.int x2), some (.int x3)] [] 0 0 m := by
  intro n
  induction n with
  | zero => intro m x3 hf; cases hf
  | succ n ih => intro m x3 hf; exact v_X9_copiesTo_89B (a0 := a0) (x1 := x1) (x2 := x2) t_a0 (f_X9_copiesTo_89 K a0 x1 x2 n) ih hf

set_option maxHeartbeats 4000000 in
theorem v_X9_copiesTo_50B {w : Wo} {K : Kn} {a0 : Nat} {x1 : Int32} {x2 : Int32} {q : Mem} (t_a0 : K a0 = some (.inl 8)) (k50 : Mem → Int32 → Option Mem) (hk50 : ∀ (m : Mem) (x3 : Int32), k50 m x3 = some q → VV w RX9 cX9_copiesTo 4 none rm_X9_copiesTo false (QM w K none q 0 0) K 50 [some (.ref a0), some (.int x1), some (.int x2), some (.int x3)] [] 0 0 m) {m : Mem} {x3 : Int32} (hf : f_X9_copiesTo_50B K a0 x1 x2 k50 m x3 = some q) : VV w RX9 cX9_copiesTo 4 none rm_X9_copiesTo false (QM w K none q 0 0) K 50 [some (.ref a0), some (.int x1), some (.int x2), some (.int x3)] [] 0 0 m := by
  unfold f_X9_copiesTo_50B at hf
  refine vv_iload_n 51 dX9_copiesTo_50 rfl rfl ?_
  refine vv_sipush 54 (v := 3200) dX9_copiesTo_51 rfl (by decide) ?_
  refine vv_icmp_ge 87 57 dX9_copiesTo_54 rfl (by decide) (fun c1 => ?_) (fun c1 => ?_)
  · rw [if_pos c1] at hf
    refine vv_iconst 88 (v := 0) dX9_copiesTo_87 rfl (by decide) ?_
    refine vv_istore_n 89 (L' := [some (.ref a0), some (.int x1), some (.int x2), some (.int (0 : Int32))]) dX9_copiesTo_88 rfl (Nat.le_of_ble_eq_true rfl) rfl ?_
    exact v_X9_copiesTo_89 t_a0 FU _ _ hf
  · rw [if_neg c1] at hf
    refine vv_aload_n 58 dX9_copiesTo_57 rfl rfl ?_
    obtain ⟨b2, g_b2, hf⟩ := bind_s hf
    have t_b2 := (ldA_spec g_b2).2
    refine gf_RX9_19 61 dX9_copiesTo_58 rfl t_a0 (ldA_spec g_b2).1 ?_
    refine vv_sipush 64 (v := 3200) dX9_copiesTo_61 rfl (by decide) ?_
    refine vv_iload_n 65 dX9_copiesTo_64 rfl rfl ?_
    refine vv_imul 66 dX9_copiesTo_65 rfl ?_
    refine vv_iload_n 67 dX9_copiesTo_66 rfl rfl ?_
    refine vv_iadd 68 dX9_copiesTo_67 rfl ?_
    refine vv_aload_n 69 dX9_copiesTo_68 rfl rfl ?_
    obtain ⟨b3, g_b3, hf⟩ := bind_s hf
    have t_b3 := (ldA_spec g_b3).2
    refine gf_RX9_19 72 dX9_copiesTo_69 rfl t_a0 (ldA_spec g_b3).1 ?_
    refine vv_sipush 75 (v := 3200) dX9_copiesTo_72 rfl (by decide) ?_
    refine vv_iload_n 76 dX9_copiesTo_75 rfl rfl ?_
    refine vv_imul 77 dX9_copiesTo_76 rfl ?_
    refine vv_iload_n 78 dX9_copiesTo_77 rfl rfl ?_
    refine vv_iadd 79 dX9_copiesTo_78 rfl ?_
    obtain ⟨r4, g_r4, hf⟩ := bind_s hf
    refine vv_iald 80 dX9_copiesTo_79 rfl t_b3 g_r4 ?_
    obtain ⟨m5, g_m5, hf⟩ := bind_s hf
    refine vv_iast 81 dX9_copiesTo_80 rfl t_b2 g_m5 ?_
    obtain ⟨z6, e_z6, hf⟩ := bd_s hf
    refine vv_iincE (q := 84) (v := z6) (c := 1) (L' := [some (.ref a0), some (.int x1), some (.int x2), some (.int z6)]) e_z6 dX9_copiesTo_81 rfl rfl (by decide) (Nat.le_of_ble_eq_true rfl) rfl ?_
    refine vv_goto 50 dX9_copiesTo_84 (by decide) ?_
    exact hk50 _ _ hf

theorem v_X9_copiesTo_50 {w : Wo} {K : Kn} {a0 : Nat} {x1 : Int32} {x2 : Int32} {q : Mem} (t_a0 : K a0 = some (.inl 8)) : ∀ (n : Nat) (m : Mem) (x3 : Int32), f_X9_copiesTo_50 K a0 x1 x2 n m x3 = some q → VV w RX9 cX9_copiesTo 4 none rm_X9_copiesTo false (QM w K none q 0 0) K 50 [some (.ref a0), some (.int x1), some (.int x2), some (.int x3)] [] 0 0 m := by
  intro n
  induction n with
  | zero => intro m x3 hf; cases hf
  | succ n ih => intro m x3 hf; exact v_X9_copiesTo_50B (a0 := a0) (x1 := x1) (x2 := x2) t_a0 (f_X9_copiesTo_50 K a0 x1 x2 n) ih hf

set_option maxHeartbeats 4000000 in
theorem v_X9_copiesTo_0 {w : Wo} {K : Kn} {a0 : Nat} {x1 : Int32} {x2 : Int32} {q : Mem} (t_a0 : K a0 = some (.inl 8)) {m : Mem} (hf : f_X9_copiesTo K a0 x1 x2 m = some q) : VV w RX9 cX9_copiesTo 4 none rm_X9_copiesTo false (QM w K none q 0 0) K 0 [some (.ref a0), some (.int x1), some (.int x2), none] [] 0 0 m := by
  unfold f_X9_copiesTo at hf
  refine vv_aload_n 1 dX9_copiesTo_0 rfl rfl ?_
  obtain ⟨b1, g_b1, hf⟩ := bind_s hf
  have t_b1 := (ldA_spec g_b1).2
  refine gf_RX9_7 4 dX9_copiesTo_1 rfl t_a0 (ldA_spec g_b1).1 ?_
  refine vv_iload_n 5 dX9_copiesTo_4 rfl rfl ?_
  refine vv_aload_n 6 dX9_copiesTo_5 rfl rfl ?_
  obtain ⟨b2, g_b2, hf⟩ := bind_s hf
  have t_b2 := (ldA_spec g_b2).2
  refine gf_RX9_7 9 dX9_copiesTo_6 rfl t_a0 (ldA_spec g_b2).1 ?_
  refine vv_iload_n 10 dX9_copiesTo_9 rfl rfl ?_
  obtain ⟨r3, g_r3, hf⟩ := bind_s hf
  refine vv_iald 11 dX9_copiesTo_10 rfl t_b2 g_r3 ?_
  obtain ⟨m4, g_m4, hf⟩ := bind_s hf
  refine vv_iast 12 dX9_copiesTo_11 rfl t_b1 g_m4 ?_
  refine vv_aload_n 13 dX9_copiesTo_12 rfl rfl ?_
  obtain ⟨b5, g_b5, hf⟩ := bind_s hf
  have t_b5 := (ldA_spec g_b5).2
  refine gf_RX9_13 16 dX9_copiesTo_13 rfl t_a0 (ldA_spec g_b5).1 ?_
  refine vv_iload_n 17 dX9_copiesTo_16 rfl rfl ?_
  refine vv_aload_n 18 dX9_copiesTo_17 rfl rfl ?_
  obtain ⟨b6, g_b6, hf⟩ := bind_s hf
  have t_b6 := (ldA_spec g_b6).2
  refine gf_RX9_13 21 dX9_copiesTo_18 rfl t_a0 (ldA_spec g_b6).1 ?_
  refine vv_iload_n 22 dX9_copiesTo_21 rfl rfl ?_
  obtain ⟨r7, g_r7, hf⟩ := bind_s hf
  refine vv_iald 23 dX9_copiesTo_22 rfl t_b6 g_r7 ?_
  obtain ⟨m8, g_m8, hf⟩ := bind_s hf
  refine vv_iast 24 dX9_copiesTo_23 rfl t_b5 g_m8 ?_
  refine vv_aload_n 25 dX9_copiesTo_24 rfl rfl ?_
  obtain ⟨b9, g_b9, hf⟩ := bind_s hf
  have t_b9 := (ldA_spec g_b9).2
  refine gf_RX9_16 28 dX9_copiesTo_25 rfl t_a0 (ldA_spec g_b9).1 ?_
  refine vv_iload_n 29 dX9_copiesTo_28 rfl rfl ?_
  refine vv_aload_n 30 dX9_copiesTo_29 rfl rfl ?_
  obtain ⟨b10, g_b10, hf⟩ := bind_s hf
  have t_b10 := (ldA_spec g_b10).2
  refine gf_RX9_16 33 dX9_copiesTo_30 rfl t_a0 (ldA_spec g_b10).1 ?_
  refine vv_iload_n 34 dX9_copiesTo_33 rfl rfl ?_
  obtain ⟨r11, g_r11, hf⟩ := bind_s hf
  refine vv_iald 35 dX9_copiesTo_34 rfl t_b10 g_r11 ?_
  obtain ⟨m12, g_m12, hf⟩ := bind_s hf
  refine vv_iast 36 dX9_copiesTo_35 rfl t_b9 g_m12 ?_
  refine vv_aload_n 37 dX9_copiesTo_36 rfl rfl ?_
  obtain ⟨b13, g_b13, hf⟩ := bind_s hf
  have t_b13 := (ldA_spec g_b13).2
  refine gf_RX9_38 40 dX9_copiesTo_37 rfl t_a0 (ldA_spec g_b13).1 ?_
  refine vv_iload_n 41 dX9_copiesTo_40 rfl rfl ?_
  refine vv_aload_n 42 dX9_copiesTo_41 rfl rfl ?_
  obtain ⟨b14, g_b14, hf⟩ := bind_s hf
  have t_b14 := (ldA_spec g_b14).2
  refine gf_RX9_38 45 dX9_copiesTo_42 rfl t_a0 (ldA_spec g_b14).1 ?_
  refine vv_iload_n 46 dX9_copiesTo_45 rfl rfl ?_
  obtain ⟨r15, g_r15, hf⟩ := bind_s hf
  refine vv_iald 47 dX9_copiesTo_46 rfl t_b14 g_r15 ?_
  obtain ⟨m16, g_m16, hf⟩ := bind_s hf
  refine vv_iast 48 dX9_copiesTo_47 rfl t_b13 g_m16 ?_
  refine vv_iconst 49 (v := 0) dX9_copiesTo_48 rfl (by decide) ?_
  refine vv_istore_n 50 (L' := [some (.ref a0), some (.int x1), some (.int x2), some (.int (0 : Int32))]) dX9_copiesTo_49 rfl (Nat.le_of_ble_eq_true rfl) rfl ?_
  exact v_X9_copiesTo_50 t_a0 FU _ _ hf

theorem c_X9_copiesTo {w : Wo} {K : Kn} {a0 : Nat} {x1 : Int32} {x2 : Int32} {q : Mem} {m : Mem} (t_a0 : K a0 = some (.inl 8)) (hf : F_X9_copiesTo K m a0 x1 x2 = some q) : MM w K K yX9_copiesTo cX9_copiesTo 4 none rm_X9_copiesTo [.ref a0, .int x1, .int x2] m none q 0 0 :=
  mm_of (ini := false) (n := 1) (plainFor_of_name (by decide)) rfl (fun h => by first | rfl | cases h) (Nat.le_of_ble_eq_true rfl) rfl (v_X9_copiesTo_0 t_a0 hf)

set_option maxHeartbeats 4000000 in
theorem v_X9_lays_39 {w : Wo} {K : Kn} {a0 : Nat} {x1 : Int32} {x2 : Int32} {q : (Int32 × Mem)} (t_a0 : K a0 = some (.inl 8)) {m : Mem} {sa0 : Nat} {s1 : Int32} {s2 : Int32} (t_sa0 : K sa0 = some (.inr (0, lenK K sa0))) (hf : f_X9_lays_39 K a0 x1 x2 m sa0 s1 s2 = some q) : VV w RX9 cX9_lays 3 (some .int) rm_X9_lays false (QM w K (some (.int q.1)) q.2 0 0) K 39 [some (.ref a0), some (.int x1), none] [.int s2, .int s1, .ref sa0] 0 0 m := by
  unfold f_X9_lays_39 at hf
  obtain ⟨m1, g_m1, hf⟩ := bind_s hf
  refine vv_iast 40 dX9_lays_39 rfl t_sa0 g_m1 ?_
  refine vv_aload_n 41 dX9_lays_40 rfl rfl ?_
  refine vv_iconst 42 (v := 4) dX9_lays_41 rfl (by decide) ?_
  refine vv_iload_n 43 dX9_lays_42 rfl rfl ?_
  obtain ⟨q2, g_q2, hf⟩ := bind_s hf
  refine vv_callV 46 (st := []) (As := [.int (4 : Int32), .int x1]) (stk2 := []) (cl2 := 0) (sl2 := 0) dX9_lays_43 rfl lk_RX9_275 w_1385 w_49 rfl t_a0 ⟨(Nat.le_of_ble_eq_true rfl), (Nat.le_of_ble_eq_true rfl)⟩ rfl rfl ⟨(Nat.le_of_ble_eq_true rfl), (Nat.le_of_ble_eq_true rfl)⟩ rfl (Nat.le_of_ble_eq_true rfl) rfl rfl rfl rfl (c_X9_copiesTo t_a0 g_q2) ?_
  refine vv_aload_n 47 dX9_lays_46 rfl rfl ?_
  obtain ⟨b3, g_b3, hf⟩ := bind_s hf
  have t_b3 := (ldA_spec g_b3).2
  refine gf_RX9_16 50 dX9_lays_47 rfl t_a0 (ldA_spec g_b3).1 ?_
  refine vv_iload_n 51 dX9_lays_50 rfl rfl ?_
  obtain ⟨r4, g_r4, hf⟩ := bind_s hf
  refine vv_iald 52 dX9_lays_51 rfl t_b3 g_r4 ?_
  obtain rfl := Option.some.inj hf
  exact vv_iret dX9_lays_52 rfl

set_option maxHeartbeats 4000000 in
theorem v_X9_lays_0 {w : Wo} {K : Kn} {a0 : Nat} {x1 : Int32} {x2 : Int32} {q : (Int32 × Mem)} (t_a0 : K a0 = some (.inl 8)) {m : Mem} (hf : f_X9_lays K a0 x1 x2 m = some q) : VV w RX9 cX9_lays 3 (some .int) rm_X9_lays false (QM w K (some (.int q.1)) q.2 0 0) K 0 [some (.ref a0), some (.int x1), some (.int x2)] [] 0 0 m := by
  unfold f_X9_lays at hf
  refine vv_aload_n 1 dX9_lays_0 rfl rfl ?_
  refine vv_iload_n 2 dX9_lays_1 rfl rfl ?_
  obtain ⟨q1, g_q1, hf⟩ := bind_s hf
  refine vv_callV 5 (st := []) (As := [.int x2]) (stk2 := [.int q1.1]) (cl2 := 0) (sl2 := 0) dX9_lays_2 rfl lk_RX9_272 w_1381 w_48 rfl t_a0 ⟨(Nat.le_of_ble_eq_true rfl), (Nat.le_of_ble_eq_true rfl)⟩ rfl rfl ⟨(Nat.le_of_ble_eq_true rfl), (Nat.le_of_ble_eq_true rfl)⟩ rfl (Nat.le_of_ble_eq_true rfl) rfl rfl rfl rfl (c_X9_packs t_a0 g_q1) ?_
  refine vv_if_ne 11 8 dX9_lays_5 rfl (by decide) (fun c2 => ?_) (fun c2 => ?_)
  · rw [if_pos c2] at hf
    refine vv_bipush 10 (v := (-4)) dX9_lays_8 rfl (by decide) ?_
    obtain rfl := Option.some.inj hf
    exact vv_iret dX9_lays_10 rfl
  · rw [if_neg c2] at hf
    refine vv_aload_n 12 dX9_lays_11 rfl rfl ?_
    obtain ⟨b3, g_b3, hf⟩ := bind_s hf
    have t_b3 := (ldA_spec g_b3).2
    refine gf_RX9_13 15 dX9_lays_12 rfl t_a0 (ldA_spec g_b3).1 ?_
    refine vv_iconst 16 (v := 4) dX9_lays_15 rfl (by decide) ?_
    refine vv_aload_n 17 dX9_lays_16 rfl rfl ?_
    refine gf_RX9_248 20 dX9_lays_17 rfl t_a0 ?_
    refine vv_if_ne 27 23 dX9_lays_20 rfl (by decide) (fun c4 => ?_) (fun c4 => ?_)
    · rw [if_pos c4] at hf
      refine vv_iconst 24 (v := (-1)) dX9_lays_23 rfl (by decide) ?_
      refine vv_goto 39 dX9_lays_24 (by decide) ?_
      exact VV.lle (v_X9_lays_39 t_a0 t_b3 hf) (lle_s (lle_s (lle_n lle_nil)))
    · rw [if_neg c4] at hf
      refine vv_aload_n 28 dX9_lays_27 rfl rfl ?_
      obtain ⟨b5, g_b5, hf⟩ := bind_s hf
      have t_b5 := (ldA_spec g_b5).2
      refine gf_RX9_66 31 dX9_lays_28 rfl t_a0 (ldA_spec g_b5).1 ?_
      refine vv_aload_n 32 dX9_lays_31 rfl rfl ?_
      refine gf_RX9_248 35 dX9_lays_32 rfl t_a0 ?_
      refine vv_iconst 36 (v := 1) dX9_lays_35 rfl (by decide) ?_
      refine vv_isub 37 dX9_lays_36 rfl ?_
      obtain ⟨r6, g_r6, hf⟩ := bind_s hf
      refine vv_lald 38 dX9_lays_37 rfl t_b5 g_r6 ?_
      refine vv_l2i 39 dX9_lays_38 rfl ?_
      exact VV.lle (v_X9_lays_39 t_a0 t_b3 hf) (lle_s (lle_s (lle_n lle_nil)))

theorem c_X9_lays {w : Wo} {K : Kn} {a0 : Nat} {x1 : Int32} {x2 : Int32} {q : (Int32 × Mem)} {m : Mem} (t_a0 : K a0 = some (.inl 8)) (hf : F_X9_lays K m a0 x1 x2 = some q) : MM w K K yX9_lays cX9_lays 3 (some .int) rm_X9_lays [.ref a0, .int x1, .int x2] m (some (.int q.1)) q.2 0 0 :=
  mm_of (ini := false) (n := 0) (plainFor_of_name (by decide)) rfl (fun h => by first | rfl | cases h) (Nat.le_of_ble_eq_true rfl) rfl (v_X9_lays_0 t_a0 hf)

set_option maxHeartbeats 4000000 in
theorem v_X9_repack_0 {w : Wo} {K : Kn} {a0 : Nat} {x1 : Int32} {x2 : Int32} {q : (Int32 × Mem)} (t_a0 : K a0 = some (.inl 8)) {m : Mem} (hf : f_X9_repack K a0 x1 x2 m = some q) : VV w RX9 cX9_repack 3 (some .int) rm_X9_repack false (QM w K (some (.int q.1)) q.2 0 0) K 0 [some (.ref a0), some (.int x1), some (.int x2)] [] 0 0 m := by
  unfold f_X9_repack at hf
  refine vv_aload_n 1 dX9_repack_0 rfl rfl ?_
  refine vv_iload_n 2 dX9_repack_1 rfl rfl ?_
  obtain ⟨q1, g_q1, hf⟩ := bind_s hf
  refine vv_callV 5 (st := []) (As := [.int x1]) (stk2 := [.int q1]) (cl2 := 0) (sl2 := 0) dX9_repack_2 rfl lk_RX9_87 w_1220 w_21 rfl t_a0 ⟨(Nat.le_of_ble_eq_true rfl), (Nat.le_of_ble_eq_true rfl)⟩ rfl rfl ⟨(Nat.le_of_ble_eq_true rfl), (Nat.le_of_ble_eq_true rfl)⟩ rfl (Nat.le_of_ble_eq_true rfl) rfl rfl rfl rfl (c_X9_isSeries t_a0 g_q1) ?_
  refine vv_if_eq 22 8 dX9_repack_5 rfl (by decide) (fun c2 => ?_) (fun c2 => ?_)
  · rw [if_pos c2] at hf
    refine vv_bipush 24 (v := (-2)) dX9_repack_22 rfl (by decide) ?_
    obtain rfl := Option.some.inj hf
    exact vv_iret dX9_repack_24 rfl
  · rw [if_neg c2] at hf
    refine vv_iload_n 9 dX9_repack_8 rfl rfl ?_
    refine vv_i2l 10 dX9_repack_9 rfl ?_
    refine vv_ldc2 13 (v := 24) dX9_repack_10 rfl w_1208 ?_
    refine vv_ldc2 16 (v := 200) dX9_repack_13 rfl w_1209 ?_
    obtain ⟨q3, g_q3, hf⟩ := bind_s hf
    refine vv_callS 19 (st := []) (As := [.long ((x2).toInt64), .long (24 : Int64), .long (200 : Int64)]) (stk2 := [.int q3]) (cl2 := 0) (sl2 := 0) dX9_repack_16 rfl lk_RX9_83 w_1206 ⟨(Nat.le_of_ble_eq_true rfl), (Nat.le_of_ble_eq_true rfl)⟩ rfl rfl ⟨(Nat.le_of_ble_eq_true rfl), (Nat.le_of_ble_eq_true rfl)⟩ rfl (Nat.le_of_ble_eq_true rfl) rfl rfl rfl rfl (c_X9_in g_q3) ?_
    refine vv_if_ne 25 22 dX9_repack_19 rfl (by decide) (fun c4 => ?_) (fun c4 => ?_)
    · rw [if_pos c4] at hf
      refine vv_bipush 24 (v := (-2)) dX9_repack_22 rfl (by decide) ?_
      obtain rfl := Option.some.inj hf
      exact vv_iret dX9_repack_24 rfl
    · rw [if_neg c4] at hf
      refine vv_aload_n 26 dX9_repack_25 rfl rfl ?_
      refine vv_iload_n 27 dX9_repack_26 rfl rfl ?_
      obtain ⟨q5, g_q5, hf⟩ := bind_s hf
      refine vv_callV 30 (st := []) (As := [.int x1]) (stk2 := [.int q5.1]) (cl2 := 0) (sl2 := 0) dX9_repack_27 rfl lk_RX9_294 w_1361 w_43 rfl t_a0 ⟨(Nat.le_of_ble_eq_true rfl), (Nat.le_of_ble_eq_true rfl)⟩ rfl rfl ⟨(Nat.le_of_ble_eq_true rfl), (Nat.le_of_ble_eq_true rfl)⟩ rfl (Nat.le_of_ble_eq_true rfl) rfl rfl rfl rfl (c_X9_hasBroken t_a0 g_q5) ?_
      refine vv_if_eq 36 33 dX9_repack_30 rfl (by decide) (fun c6 => ?_) (fun c6 => ?_)
      · rw [if_pos c6] at hf
        refine vv_aload_n 37 dX9_repack_36 rfl rfl ?_
        refine vv_iload_n 38 dX9_repack_37 rfl rfl ?_
        obtain ⟨q7, g_q7, hf⟩ := bind_s hf
        refine vv_callV 41 (st := []) (As := [.int x1]) (stk2 := []) (cl2 := 0) (sl2 := 0) dX9_repack_38 rfl lk_RX9_297 w_1369 w_45 rfl t_a0 ⟨(Nat.le_of_ble_eq_true rfl), (Nat.le_of_ble_eq_true rfl)⟩ rfl rfl ⟨(Nat.le_of_ble_eq_true rfl), (Nat.le_of_ble_eq_true rfl)⟩ rfl (Nat.le_of_ble_eq_true rfl) rfl rfl rfl rfl (c_X9_gathers t_a0 g_q7) ?_
        refine vv_aload_n 42 dX9_repack_41 rfl rfl ?_
        refine vv_iload_n 43 dX9_repack_42 rfl rfl ?_
        refine vv_iload_n 44 dX9_repack_43 rfl rfl ?_
        obtain ⟨q8, g_q8, hf⟩ := bind_s hf
        refine vv_callV 47 (st := []) (As := [.int x1, .int x2]) (stk2 := [.int q8.1]) (cl2 := 0) (sl2 := 0) dX9_repack_44 rfl lk_RX9_300 w_1377 w_47 rfl t_a0 ⟨(Nat.le_of_ble_eq_true rfl), (Nat.le_of_ble_eq_true rfl)⟩ rfl rfl ⟨(Nat.le_of_ble_eq_true rfl), (Nat.le_of_ble_eq_true rfl)⟩ rfl (Nat.le_of_ble_eq_true rfl) rfl rfl rfl rfl (c_X9_lays t_a0 g_q8) ?_
        obtain rfl := Option.some.inj hf
        exact vv_iret dX9_repack_47 rfl
      · rw [if_neg c6] at hf
        refine vv_bipush 35 (v := (-6)) dX9_repack_33 rfl (by decide) ?_
        obtain rfl := Option.some.inj hf
        exact vv_iret dX9_repack_35 rfl

theorem c_X9_repack {w : Wo} {K : Kn} {a0 : Nat} {x1 : Int32} {x2 : Int32} {q : (Int32 × Mem)} {m : Mem} (t_a0 : K a0 = some (.inl 8)) (hf : F_X9_repack K m a0 x1 x2 = some q) : MM w K K yX9_repack cX9_repack 3 (some .int) rm_X9_repack [.ref a0, .int x1, .int x2] m (some (.int q.1)) q.2 0 0 :=
  mm_of (ini := false) (n := 0) (plainFor_of_name (by decide)) rfl (fun h => by first | rfl | cases h) (Nat.le_of_ble_eq_true rfl) rfl (v_X9_repack_0 t_a0 hf)

set_option maxHeartbeats 4000000 in
theorem v_X9_merge_0 {w : Wo} {K : Kn} {a0 : Nat} {x1 : Int32} {q : (Int32 × Mem)} (t_a0 : K a0 = some (.inl 8)) {m : Mem} (hf : f_X9_merge K a0 x1 m = some q) : VV w RX9 cX9_merge 2 (some .int) rm_X9_merge false (QM w K (some (.int q.1)) q.2 0 0) K 0 [some (.ref a0), some (.int x1)] [] 0 0 m := by
  unfold f_X9_merge at hf
  refine vv_aload_n 1 dX9_merge_0 rfl rfl ?_
  refine vv_iload_n 2 dX9_merge_1 rfl rfl ?_
  obtain ⟨q1, g_q1, hf⟩ := bind_s hf
  refine vv_callV 5 (st := []) (As := [.int x1]) (stk2 := [.int q1]) (cl2 := 0) (sl2 := 0) dX9_merge_2 rfl lk_RX9_87 w_1220 w_21 rfl t_a0 ⟨(Nat.le_of_ble_eq_true rfl), (Nat.le_of_ble_eq_true rfl)⟩ rfl rfl ⟨(Nat.le_of_ble_eq_true rfl), (Nat.le_of_ble_eq_true rfl)⟩ rfl (Nat.le_of_ble_eq_true rfl) rfl rfl rfl rfl (c_X9_isSeries t_a0 g_q1) ?_
  refine vv_if_eq 22 8 dX9_merge_5 rfl (by decide) (fun c2 => ?_) (fun c2 => ?_)
  · rw [if_pos c2] at hf
    refine vv_bipush 24 (v := (-2)) dX9_merge_22 rfl (by decide) ?_
    obtain rfl := Option.some.inj hf
    exact vv_iret dX9_merge_24 rfl
  · rw [if_neg c2] at hf
    refine vv_aload_n 9 dX9_merge_8 rfl rfl ?_
    refine vv_iload_n 10 dX9_merge_9 rfl rfl ?_
    refine vv_aload_n 11 dX9_merge_10 rfl rfl ?_
    obtain ⟨b3, g_b3, hf⟩ := bind_s hf
    have t_b3 := (ldA_spec g_b3).2
    refine gf_RX9_7 14 dX9_merge_11 rfl t_a0 (ldA_spec g_b3).1 ?_
    refine vv_iload_n 15 dX9_merge_14 rfl rfl ?_
    obtain ⟨r4, g_r4, hf⟩ := bind_s hf
    refine vv_iald 16 dX9_merge_15 rfl t_b3 g_r4 ?_
    obtain ⟨q5, g_q5, hf⟩ := bind_s hf
    refine vv_callV 19 (st := []) (As := [.int x1, .int r4]) (stk2 := [.int q5.1]) (cl2 := 0) (sl2 := 0) dX9_merge_16 rfl lk_RX9_291 w_1356 w_1357 rfl t_a0 ⟨(Nat.le_of_ble_eq_true rfl), (Nat.le_of_ble_eq_true rfl)⟩ rfl rfl ⟨(Nat.le_of_ble_eq_true rfl), (Nat.le_of_ble_eq_true rfl)⟩ rfl (Nat.le_of_ble_eq_true rfl) rfl rfl rfl rfl (c_X9_repack t_a0 g_q5) ?_
    refine vv_goto 24 dX9_merge_19 (by decide) ?_
    obtain rfl := Option.some.inj hf
    exact vv_iret dX9_merge_24 rfl

theorem c_X9_merge {w : Wo} {K : Kn} {a0 : Nat} {x1 : Int32} {q : (Int32 × Mem)} {m : Mem} (t_a0 : K a0 = some (.inl 8)) (hf : F_X9_merge K m a0 x1 = some q) : MM w K K yX9_merge cX9_merge 2 (some .int) rm_X9_merge [.ref a0, .int x1] m (some (.int q.1)) q.2 0 0 :=
  mm_of (ini := false) (n := 0) (plainFor_of_name (by decide)) rfl (fun h => by first | rfl | cases h) (Nat.le_of_ble_eq_true rfl) rfl (v_X9_merge_0 t_a0 hf)

set_option maxHeartbeats 4000000 in
theorem v_X9_bytesOf_4B {w : Wo} {K : Kn} {a0 : Nat} {x1 : Int32} {q : Int32} {m : Mem} (t_a0 : K a0 = some (.inl 8)) (k4 : Int32 → Int32 → Option Int32) (hk4 : ∀ (x2 : Int32) (x3 : Int32), k4 x2 x3 = some q → VV w RX9 cX9_bytesOf 4 (some .int) rm_X9_bytesOf false (QM w K (some (.int q)) m 0 0) K 4 [some (.ref a0), some (.int x1), some (.int x2), some (.int x3)] [] 0 0 m) {x2 : Int32} {x3 : Int32} (hf : f_X9_bytesOf_4B K m a0 x1 k4 x2 x3 = some q) : VV w RX9 cX9_bytesOf 4 (some .int) rm_X9_bytesOf false (QM w K (some (.int q)) m 0 0) K 4 [some (.ref a0), some (.int x1), some (.int x2), some (.int x3)] [] 0 0 m := by
  unfold f_X9_bytesOf_4B at hf
  refine vv_iload_n 5 dX9_bytesOf_4 rfl rfl ?_
  refine vv_aload_n 6 dX9_bytesOf_5 rfl rfl ?_
  obtain ⟨b1, g_b1, hf⟩ := bind_s hf
  have t_b1 := (ldA_spec g_b1).2
  refine gf_RX9_16 9 dX9_bytesOf_6 rfl t_a0 (ldA_spec g_b1).1 ?_
  refine vv_iload_n 10 dX9_bytesOf_9 rfl rfl ?_
  obtain ⟨r2, g_r2, hf⟩ := bind_s hf
  refine vv_iald 11 dX9_bytesOf_10 rfl t_b1 g_r2 ?_
  refine vv_icmp_ge 34 14 dX9_bytesOf_11 rfl (by decide) (fun c3 => ?_) (fun c3 => ?_)
  · rw [if_pos c3] at hf
    refine vv_iload_n 35 dX9_bytesOf_34 rfl rfl ?_
    obtain rfl := Option.some.inj hf
    exact vv_iret dX9_bytesOf_35 rfl
  · rw [if_neg c3] at hf
    refine vv_iload_n 15 dX9_bytesOf_14 rfl rfl ?_
    refine vv_aload_n 16 dX9_bytesOf_15 rfl rfl ?_
    obtain ⟨b4, g_b4, hf⟩ := bind_s hf
    have t_b4 := (ldA_spec g_b4).2
    refine gf_RX9_22 19 dX9_bytesOf_16 rfl t_a0 (ldA_spec g_b4).1 ?_
    refine vv_bipush 21 (v := 16) dX9_bytesOf_19 rfl (by decide) ?_
    refine vv_iload_n 22 dX9_bytesOf_21 rfl rfl ?_
    refine vv_imul 23 dX9_bytesOf_22 rfl ?_
    refine vv_iload_n 24 dX9_bytesOf_23 rfl rfl ?_
    refine vv_iadd 25 dX9_bytesOf_24 rfl ?_
    obtain ⟨r5, g_r5, hf⟩ := bind_s hf
    refine vv_iald 26 dX9_bytesOf_25 rfl t_b4 g_r5 ?_
    refine vv_iadd 27 dX9_bytesOf_26 rfl ?_
    obtain ⟨z6, e_z6, hf⟩ := bd_s hf
    refine vv_istore_nE (q := 28) (v := z6) (L' := [some (.ref a0), some (.int x1), some (.int z6), some (.int x3)]) e_z6 dX9_bytesOf_27 rfl (Nat.le_of_ble_eq_true rfl) rfl ?_
    obtain ⟨z7, e_z7, hf⟩ := bd_s hf
    refine vv_iincE (q := 31) (v := z7) (c := 1) (L' := [some (.ref a0), some (.int x1), some (.int z6), some (.int z7)]) e_z7 dX9_bytesOf_28 rfl rfl (by decide) (Nat.le_of_ble_eq_true rfl) rfl ?_
    refine vv_goto 4 dX9_bytesOf_31 (by decide) ?_
    exact hk4 _ _ hf

theorem v_X9_bytesOf_4 {w : Wo} {K : Kn} {a0 : Nat} {x1 : Int32} {q : Int32} {m : Mem} (t_a0 : K a0 = some (.inl 8)) : ∀ (n : Nat) (x2 : Int32) (x3 : Int32), f_X9_bytesOf_4 K m a0 x1 n x2 x3 = some q → VV w RX9 cX9_bytesOf 4 (some .int) rm_X9_bytesOf false (QM w K (some (.int q)) m 0 0) K 4 [some (.ref a0), some (.int x1), some (.int x2), some (.int x3)] [] 0 0 m := by
  intro n
  induction n with
  | zero => intro x2 x3 hf; cases hf
  | succ n ih => intro x2 x3 hf; exact v_X9_bytesOf_4B (a0 := a0) (x1 := x1) t_a0 (f_X9_bytesOf_4 K m a0 x1 n) ih hf

set_option maxHeartbeats 4000000 in
theorem v_X9_bytesOf_0 {w : Wo} {K : Kn} {a0 : Nat} {x1 : Int32} {q : Int32} {m : Mem} (t_a0 : K a0 = some (.inl 8)) (hf : f_X9_bytesOf K m a0 x1 = some q) : VV w RX9 cX9_bytesOf 4 (some .int) rm_X9_bytesOf false (QM w K (some (.int q)) m 0 0) K 0 [some (.ref a0), some (.int x1), none, none] [] 0 0 m := by
  unfold f_X9_bytesOf at hf
  refine vv_iconst 1 (v := 0) dX9_bytesOf_0 rfl (by decide) ?_
  refine vv_istore_n 2 (L' := [some (.ref a0), some (.int x1), some (.int (0 : Int32)), none]) dX9_bytesOf_1 rfl (Nat.le_of_ble_eq_true rfl) rfl ?_
  refine vv_iconst 3 (v := 0) dX9_bytesOf_2 rfl (by decide) ?_
  refine vv_istore_n 4 (L' := [some (.ref a0), some (.int x1), some (.int (0 : Int32)), some (.int (0 : Int32))]) dX9_bytesOf_3 rfl (Nat.le_of_ble_eq_true rfl) rfl ?_
  exact v_X9_bytesOf_4 t_a0 FU _ _ hf

theorem c_X9_bytesOf {w : Wo} {K : Kn} {a0 : Nat} {x1 : Int32} {q : Int32} {m : Mem} (t_a0 : K a0 = some (.inl 8)) (hf : F_X9_bytesOf K m a0 x1 = some q) : MM w K K yX9_bytesOf cX9_bytesOf 4 (some .int) rm_X9_bytesOf [.ref a0, .int x1] m (some (.int q)) m 0 0 :=
  mm_of (ini := false) (n := 2) (plainFor_of_name (by decide)) rfl (fun h => by first | rfl | cases h) (Nat.le_of_ble_eq_true rfl) rfl (v_X9_bytesOf_0 t_a0 hf)

set_option maxHeartbeats 4000000 in
theorem v_X9_count_74 {w : Wo} {K : Kn} {a0 : Nat} {x1 : Int32} {x2 : Int32} {q : (Int32 × Mem)} (t_a0 : K a0 = some (.inl 8)) (k19 : Mem → Int32 → Int32 → Int32 → Option (Int32 × Mem)) (hk19 : ∀ (m : Mem) (x3 : Int32) (x4 : Int32) (x5 : Int32), k19 m x3 x4 x5 = some q → VV w RX9 cX9_count 7 (some .int) rm_X9_count false (QM w K (some (.int q.1)) q.2 0 0) K 19 [some (.ref a0), some (.int x1), some (.int x2), some (.int x3), some (.int x4), some (.int x5), none] [] 0 0 m) {m : Mem} {x3 : Int32} {x5 : Int32} {s0 : Int32} {s1 : Int32} (hf : f_X9_count_74 K a0 x1 x2 k19 m x3 x5 s0 s1 = some q) : VV w RX9 cX9_count 7 (some .int) rm_X9_count false (QM w K (some (.int q.1)) q.2 0 0) K 74 [some (.ref a0), some (.int x1), some (.int x2), some (.int x3), none, some (.int x5), none] [.int s1, .int s0] 0 0 m := by
  unfold f_X9_count_74 at hf
  refine vv_ior 75 dX9_count_74 rfl ?_
  obtain ⟨z1, e_z1, hf⟩ := bd_s hf
  refine vv_istoreE (q := 77) (v := z1) (L' := [some (.ref a0), some (.int x1), some (.int x2), some (.int x3), some (.int z1), some (.int x5), none]) e_z1 dX9_count_75 rfl (Nat.le_of_ble_eq_true rfl) rfl ?_
  obtain ⟨z2, e_z2, hf⟩ := bd_s hf
  refine vv_iincE (q := 80) (v := z2) (c := 1) (L' := [some (.ref a0), some (.int x1), some (.int x2), some (.int x3), some (.int z1), some (.int z2), none]) e_z2 dX9_count_77 rfl rfl (by decide) (Nat.le_of_ble_eq_true rfl) rfl ?_
  refine vv_goto 19 dX9_count_80 (by decide) ?_
  exact hk19 _ _ _ _ hf

set_option maxHeartbeats 4000000 in
theorem v_X9_count_57 {w : Wo} {K : Kn} {a0 : Nat} {x1 : Int32} {x2 : Int32} {q : (Int32 × Mem)} (t_a0 : K a0 = some (.inl 8)) (k19 : Mem → Int32 → Int32 → Int32 → Option (Int32 × Mem)) (hk19 : ∀ (m : Mem) (x3 : Int32) (x4 : Int32) (x5 : Int32), k19 m x3 x4 x5 = some q → VV w RX9 cX9_count 7 (some .int) rm_X9_count false (QM w K (some (.int q.1)) q.2 0 0) K 19 [some (.ref a0), some (.int x1), some (.int x2), some (.int x3), some (.int x4), some (.int x5), none] [] 0 0 m) {m : Mem} {x4 : Int32} {x5 : Int32} {x6 : Int32} {s0 : Int32} {s1 : Int32} (hf : f_X9_count_57 K a0 x1 x2 k19 m x4 x5 x6 s0 s1 = some q) : VV w RX9 cX9_count 7 (some .int) rm_X9_count false (QM w K (some (.int q.1)) q.2 0 0) K 57 [some (.ref a0), some (.int x1), some (.int x2), none, some (.int x4), some (.int x5), some (.int x6)] [.int s1, .int s0] 0 0 m := by
  unfold f_X9_count_57 at hf
  refine vv_iadd 58 dX9_count_57 rfl ?_
  obtain ⟨z1, e_z1, hf⟩ := bd_s hf
  refine vv_istore_nE (q := 59) (v := z1) (L' := [some (.ref a0), some (.int x1), some (.int x2), some (.int z1), some (.int x4), some (.int x5), some (.int x6)]) e_z1 dX9_count_58 rfl (Nat.le_of_ble_eq_true rfl) rfl ?_
  refine vv_iload 61 dX9_count_59 rfl rfl ?_
  refine vv_iload 63 dX9_count_61 rfl rfl ?_
  refine vv_if_eq 73 66 dX9_count_63 rfl (by decide) (fun c2 => ?_) (fun c2 => ?_)
  · rw [if_pos c2] at hf
    refine vv_iconst 74 (v := 0) dX9_count_73 rfl (by decide) ?_
    exact VV.lle (v_X9_count_74 t_a0 k19 hk19 hf) (lle_s (lle_s (lle_s (lle_s (lle_n (lle_s (lle_n lle_nil)))))))
  · rw [if_neg c2] at hf
    refine vv_iconst 67 (v := 1) dX9_count_66 rfl (by decide) ?_
    refine vv_iload 69 dX9_count_67 rfl rfl ?_
    refine vv_ishl 70 dX9_count_69 rfl ?_
    refine vv_goto 74 dX9_count_70 (by decide) ?_
    exact VV.lle (v_X9_count_74 t_a0 k19 hk19 hf) (lle_s (lle_s (lle_s (lle_s (lle_n (lle_s (lle_n lle_nil)))))))

set_option maxHeartbeats 4000000 in
theorem v_X9_count_136 {w : Wo} {K : Kn} {a0 : Nat} {x1 : Int32} {x2 : Int32} {q : (Int32 × Mem)} (t_a0 : K a0 = some (.inl 8)) {m : Mem} (hf : f_X9_count_136 K a0 x1 x2 m = some q) : VV w RX9 cX9_count 7 (some .int) rm_X9_count false (QM w K (some (.int q.1)) q.2 0 0) K 136 [some (.ref a0), some (.int x1), none, none, none, none, none] [] 0 0 m := by
  unfold f_X9_count_136 at hf
  refine vv_aload_n 137 dX9_count_136 rfl rfl ?_
  obtain ⟨b1, g_b1, hf⟩ := bind_s hf
  have t_b1 := (ldA_spec g_b1).2
  refine gf_RX9_7 140 dX9_count_137 rfl t_a0 (ldA_spec g_b1).1 ?_
  refine vv_iload_n 141 dX9_count_140 rfl rfl ?_
  obtain ⟨r2, g_r2, hf⟩ := bind_s hf
  refine vv_iald 142 dX9_count_141 rfl t_b1 g_r2 ?_
  obtain rfl := Option.some.inj hf
  exact vv_iret dX9_count_142 rfl

set_option maxHeartbeats 4000000 in
theorem v_X9_count_143 {w : Wo} {K : Kn} {a0 : Nat} {x1 : Int32} {x2 : Int32} {q : (Int32 × Mem)} (t_a0 : K a0 = some (.inl 8)) {m : Mem} {x3 : Int32} (hf : f_X9_count_143 K a0 x1 x2 m x3 = some q) : VV w RX9 cX9_count 7 (some .int) rm_X9_count false (QM w K (some (.int q.1)) q.2 0 0) K 143 [none, none, none, some (.int x3), none, none, none] [] 0 0 m := by
  unfold f_X9_count_143 at hf
  refine vv_iload_n 144 dX9_count_143 rfl rfl ?_
  obtain rfl := Option.some.inj hf
  exact vv_iret dX9_count_144 rfl

set_option maxHeartbeats 4000000 in
theorem v_X9_count_145 {w : Wo} {K : Kn} {a0 : Nat} {x1 : Int32} {x2 : Int32} {q : (Int32 × Mem)} (t_a0 : K a0 = some (.inl 8)) {m : Mem} (hf : f_X9_count_145 K a0 x1 x2 m = some q) : VV w RX9 cX9_count 7 (some .int) rm_X9_count false (QM w K (some (.int q.1)) q.2 0 0) K 145 [some (.ref a0), some (.int x1), none, none, none, none, none] [] 0 0 m := by
  unfold f_X9_count_145 at hf
  refine vv_aload_n 146 dX9_count_145 rfl rfl ?_
  obtain ⟨b1, g_b1, hf⟩ := bind_s hf
  have t_b1 := (ldA_spec g_b1).2
  refine gf_RX9_16 149 dX9_count_146 rfl t_a0 (ldA_spec g_b1).1 ?_
  refine vv_iload_n 150 dX9_count_149 rfl rfl ?_
  obtain ⟨r2, g_r2, hf⟩ := bind_s hf
  refine vv_iald 151 dX9_count_150 rfl t_b1 g_r2 ?_
  obtain rfl := Option.some.inj hf
  exact vv_iret dX9_count_151 rfl

set_option maxHeartbeats 4000000 in
theorem v_X9_count_152 {w : Wo} {K : Kn} {a0 : Nat} {x1 : Int32} {x2 : Int32} {q : (Int32 × Mem)} (t_a0 : K a0 = some (.inl 8)) {m : Mem} (hf : f_X9_count_152 K a0 x1 x2 m = some q) : VV w RX9 cX9_count 7 (some .int) rm_X9_count false (QM w K (some (.int q.1)) q.2 0 0) K 152 [some (.ref a0), some (.int x1), none, none, none, none, none] [] 0 0 m := by
  unfold f_X9_count_152 at hf
  refine vv_aload_n 153 dX9_count_152 rfl rfl ?_
  obtain ⟨b1, g_b1, hf⟩ := bind_s hf
  have t_b1 := (ldA_spec g_b1).2
  refine gf_RX9_38 156 dX9_count_153 rfl t_a0 (ldA_spec g_b1).1 ?_
  refine vv_iload_n 157 dX9_count_156 rfl rfl ?_
  obtain ⟨r2, g_r2, hf⟩ := bind_s hf
  refine vv_iald 158 dX9_count_157 rfl t_b1 g_r2 ?_
  obtain rfl := Option.some.inj hf
  exact vv_iret dX9_count_158 rfl

set_option maxHeartbeats 4000000 in
theorem v_X9_count_159 {w : Wo} {K : Kn} {a0 : Nat} {x1 : Int32} {x2 : Int32} {q : (Int32 × Mem)} (t_a0 : K a0 = some (.inl 8)) {m : Mem} (hf : f_X9_count_159 K a0 x1 x2 m = some q) : VV w RX9 cX9_count 7 (some .int) rm_X9_count false (QM w K (some (.int q.1)) q.2 0 0) K 159 [some (.ref a0), some (.int x1), none, none, none, none, none] [] 0 0 m := by
  unfold f_X9_count_159 at hf
  refine vv_aload_n 160 dX9_count_159 rfl rfl ?_
  refine vv_iload_n 161 dX9_count_160 rfl rfl ?_
  obtain ⟨q1, g_q1, hf⟩ := bind_s hf
  refine vv_callV 164 (st := []) (As := [.int x1]) (stk2 := [.int q1]) (cl2 := 0) (sl2 := 0) dX9_count_161 rfl lk_RX9_303 w_1394 w_50 rfl t_a0 ⟨(Nat.le_of_ble_eq_true rfl), (Nat.le_of_ble_eq_true rfl)⟩ rfl rfl ⟨(Nat.le_of_ble_eq_true rfl), (Nat.le_of_ble_eq_true rfl)⟩ rfl (Nat.le_of_ble_eq_true rfl) rfl rfl rfl rfl (c_X9_bytesOf t_a0 g_q1) ?_
  obtain rfl := Option.some.inj hf
  exact vv_iret dX9_count_164 rfl

set_option maxHeartbeats 4000000 in
theorem v_X9_count_165 {w : Wo} {K : Kn} {a0 : Nat} {x1 : Int32} {x2 : Int32} {q : (Int32 × Mem)} (t_a0 : K a0 = some (.inl 8)) {m : Mem} {x4 : Int32} (hf : f_X9_count_165 K a0 x1 x2 m x4 = some q) : VV w RX9 cX9_count 7 (some .int) rm_X9_count false (QM w K (some (.int q.1)) q.2 0 0) K 165 [none, none, none, none, some (.int x4), none, none] [] 0 0 m := by
  unfold f_X9_count_165 at hf
  refine vv_iload 167 dX9_count_165 rfl rfl ?_
  obtain rfl := Option.some.inj hf
  exact vv_iret dX9_count_167 rfl

set_option maxHeartbeats 4000000 in
theorem v_X9_count_168 {w : Wo} {K : Kn} {a0 : Nat} {x1 : Int32} {x2 : Int32} {q : (Int32 × Mem)} (t_a0 : K a0 = some (.inl 8)) {m : Mem} (hf : f_X9_count_168 K a0 x1 x2 m = some q) : VV w RX9 cX9_count 7 (some .int) rm_X9_count false (QM w K (some (.int q.1)) q.2 0 0) K 168 [some (.ref a0), none, none, none, none, none, none] [] 0 0 m := by
  unfold f_X9_count_168 at hf
  refine vv_aload_n 169 dX9_count_168 rfl rfl ?_
  refine gf_RX9_248 172 dX9_count_169 rfl t_a0 ?_
  obtain rfl := Option.some.inj hf
  exact vv_iret dX9_count_172 rfl

set_option maxHeartbeats 4000000 in
theorem v_X9_count_173 {w : Wo} {K : Kn} {a0 : Nat} {x1 : Int32} {x2 : Int32} {q : (Int32 × Mem)} (t_a0 : K a0 = some (.inl 8)) {m : Mem} (hf : f_X9_count_173 K a0 x1 x2 m = some q) : VV w RX9 cX9_count 7 (some .int) rm_X9_count false (QM w K (some (.int q.1)) q.2 0 0) K 173 [some (.ref a0), some (.int x1), none, none, none, none, none] [] 0 0 m := by
  unfold f_X9_count_173 at hf
  refine vv_aload_n 174 dX9_count_173 rfl rfl ?_
  obtain ⟨b1, g_b1, hf⟩ := bind_s hf
  have t_b1 := (ldA_spec g_b1).2
  refine gf_RX9_13 177 dX9_count_174 rfl t_a0 (ldA_spec g_b1).1 ?_
  refine vv_iload_n 178 dX9_count_177 rfl rfl ?_
  obtain ⟨r2, g_r2, hf⟩ := bind_s hf
  refine vv_iald 179 dX9_count_178 rfl t_b1 g_r2 ?_
  obtain rfl := Option.some.inj hf
  exact vv_iret dX9_count_179 rfl

set_option maxHeartbeats 4000000 in
theorem v_X9_count_19B {w : Wo} {K : Kn} {a0 : Nat} {x1 : Int32} {x2 : Int32} {q : (Int32 × Mem)} (t_a0 : K a0 = some (.inl 8)) (k19 : Mem → Int32 → Int32 → Int32 → Option (Int32 × Mem)) (hk19 : ∀ (m : Mem) (x3 : Int32) (x4 : Int32) (x5 : Int32), k19 m x3 x4 x5 = some q → VV w RX9 cX9_count 7 (some .int) rm_X9_count false (QM w K (some (.int q.1)) q.2 0 0) K 19 [some (.ref a0), some (.int x1), some (.int x2), some (.int x3), some (.int x4), some (.int x5), none] [] 0 0 m) {m : Mem} {x3 : Int32} {x4 : Int32} {x5 : Int32} (hf : f_X9_count_19B K a0 x1 x2 k19 m x3 x4 x5 = some q) : VV w RX9 cX9_count 7 (some .int) rm_X9_count false (QM w K (some (.int q.1)) q.2 0 0) K 19 [some (.ref a0), some (.int x1), some (.int x2), some (.int x3), some (.int x4), some (.int x5), none] [] 0 0 m := by
  unfold f_X9_count_19B at hf
  refine vv_iload 21 dX9_count_19 rfl rfl ?_
  refine vv_aload_n 22 dX9_count_21 rfl rfl ?_
  obtain ⟨b1, g_b1, hf⟩ := bind_s hf
  have t_b1 := (ldA_spec g_b1).2
  refine gf_RX9_16 25 dX9_count_22 rfl t_a0 (ldA_spec g_b1).1 ?_
  refine vv_iload_n 26 dX9_count_25 rfl rfl ?_
  obtain ⟨r2, g_r2, hf⟩ := bind_s hf
  refine vv_iald 27 dX9_count_26 rfl t_b1 g_r2 ?_
  refine vv_icmp_ge 83 30 dX9_count_27 rfl (by decide) (fun c3 => ?_) (fun c3 => ?_)
  · rw [if_pos c3] at hf
    refine vv_aload_n 84 dX9_count_83 rfl rfl ?_
    refine vv_iload_n 85 dX9_count_84 rfl rfl ?_
    obtain ⟨q4, g_q4, hf⟩ := bind_s hf
    refine vv_callV 88 (st := []) (As := [.int x1]) (stk2 := []) (cl2 := 0) (sl2 := 0) dX9_count_85 rfl lk_RX9_297 w_1369 w_45 rfl t_a0 ⟨(Nat.le_of_ble_eq_true rfl), (Nat.le_of_ble_eq_true rfl)⟩ rfl rfl ⟨(Nat.le_of_ble_eq_true rfl), (Nat.le_of_ble_eq_true rfl)⟩ rfl (Nat.le_of_ble_eq_true rfl) rfl rfl rfl rfl (c_X9_gathers t_a0 g_q4) ?_
    refine vv_iload_n 89 dX9_count_88 rfl rfl ?_
    by_cases c5 : x2 = 0
    · rw [if_pos c5] at hf
      refine vv_tabK 136 (k := 0) c5 dX9_count_89 (by decide) (by decide) (off := 47) rfl (by decide) ?_
      exact VV.lle (v_X9_count_136 t_a0 hf) (lle_s (lle_s (lle_n (lle_n (lle_n (lle_n (lle_s lle_nil)))))))
    rw [if_neg c5] at hf
    by_cases c6 : x2 = 1
    · rw [if_pos c6] at hf
      refine vv_tabK 143 (k := 1) c6 dX9_count_89 (by decide) (by decide) (off := 54) rfl (by decide) ?_
      exact VV.lle (v_X9_count_143 t_a0 hf) (lle_n (lle_n (lle_n (lle_s (lle_n (lle_n (lle_s lle_nil)))))))
    rw [if_neg c6] at hf
    by_cases c7 : x2 = 2
    · rw [if_pos c7] at hf
      refine vv_tabK 145 (k := 2) c7 dX9_count_89 (by decide) (by decide) (off := 56) rfl (by decide) ?_
      exact VV.lle (v_X9_count_145 t_a0 hf) (lle_s (lle_s (lle_n (lle_n (lle_n (lle_n (lle_s lle_nil)))))))
    rw [if_neg c7] at hf
    by_cases c8 : x2 = 3
    · rw [if_pos c8] at hf
      refine vv_tabK 152 (k := 3) c8 dX9_count_89 (by decide) (by decide) (off := 63) rfl (by decide) ?_
      exact VV.lle (v_X9_count_152 t_a0 hf) (lle_s (lle_s (lle_n (lle_n (lle_n (lle_n (lle_s lle_nil)))))))
    rw [if_neg c8] at hf
    by_cases c9 : x2 = 4
    · rw [if_pos c9] at hf
      refine vv_tabK 159 (k := 4) c9 dX9_count_89 (by decide) (by decide) (off := 70) rfl (by decide) ?_
      exact VV.lle (v_X9_count_159 t_a0 hf) (lle_s (lle_s (lle_n (lle_n (lle_n (lle_n (lle_s lle_nil)))))))
    rw [if_neg c9] at hf
    by_cases c10 : x2 = 5
    · rw [if_pos c10] at hf
      refine vv_tabK 165 (k := 5) c10 dX9_count_89 (by decide) (by decide) (off := 76) rfl (by decide) ?_
      exact VV.lle (v_X9_count_165 t_a0 hf) (lle_n (lle_n (lle_n (lle_n (lle_s (lle_n (lle_s lle_nil)))))))
    rw [if_neg c10] at hf
    by_cases c11 : x2 = 6
    · rw [if_pos c11] at hf
      refine vv_tabK 168 (k := 6) c11 dX9_count_89 (by decide) (by decide) (off := 79) rfl (by decide) ?_
      exact VV.lle (v_X9_count_168 t_a0 hf) (lle_s (lle_n (lle_n (lle_n (lle_n (lle_n (lle_s lle_nil)))))))
    rw [if_neg c11] at hf
    by_cases c12 : x2 = 7
    · rw [if_pos c12] at hf
      refine vv_tabK 173 (k := 7) c12 dX9_count_89 (by decide) (by decide) (off := 84) rfl (by decide) ?_
      exact VV.lle (v_X9_count_173 t_a0 hf) (lle_s (lle_s (lle_n (lle_n (lle_n (lle_n (lle_s lle_nil)))))))
    rw [if_neg c12] at hf
    refine vv_tabOut 180 dX9_count_89 (tab_out (n := 7) (by decide) (fun k hk => ?_)) (by decide) ?_
    · match k, hk with
      | 0, _ => exact c5
      | 1, _ => exact c6
      | 2, _ => exact c7
      | 3, _ => exact c8
      | 4, _ => exact c9
      | 5, _ => exact c10
      | 6, _ => exact c11
      | 7, _ => exact c12
      | k + 8, hk => exact absurd hk (by omega)
    refine vv_bipush 182 (v := (-2)) dX9_count_180 rfl (by decide) ?_
    obtain rfl := Option.some.inj hf
    exact vv_iret dX9_count_182 rfl
  · rw [if_neg c3] at hf
    refine vv_aload_n 31 dX9_count_30 rfl rfl ?_
    refine vv_bipush 33 (v := 16) dX9_count_31 rfl (by decide) ?_
    refine vv_iload_n 34 dX9_count_33 rfl rfl ?_
    refine vv_imul 35 dX9_count_34 rfl ?_
    refine vv_iload 37 dX9_count_35 rfl rfl ?_
    refine vv_iadd 38 dX9_count_37 rfl ?_
    obtain ⟨q13, g_q13, hf⟩ := bind_s hf
    refine vv_callV 41 (st := []) (As := [.int (((16 : Int32) * x1) + x5)]) (stk2 := [.int q13.1]) (cl2 := 0) (sl2 := 0) dX9_count_38 rfl lk_RX9_245 w_1365 w_44 rfl t_a0 ⟨(Nat.le_of_ble_eq_true rfl), (Nat.le_of_ble_eq_true rfl)⟩ rfl rfl ⟨(Nat.le_of_ble_eq_true rfl), (Nat.le_of_ble_eq_true rfl)⟩ rfl (Nat.le_of_ble_eq_true rfl) rfl rfl rfl rfl (c_X9_isBroken t_a0 g_q13) ?_
    obtain ⟨z14, e_z14, hf⟩ := bd_s hf
    refine vv_istoreE (q := 43) (v := z14) (L' := [some (.ref a0), some (.int x1), some (.int x2), some (.int x3), some (.int x4), some (.int x5), some (.int z14)]) e_z14 dX9_count_41 rfl (Nat.le_of_ble_eq_true rfl) rfl ?_
    refine vv_iload_n 44 dX9_count_43 rfl rfl ?_
    refine vv_iload 46 dX9_count_44 rfl rfl ?_
    refine vv_if_eq 53 49 dX9_count_46 rfl (by decide) (fun c15 => ?_) (fun c15 => ?_)
    · rw [if_pos c15] at hf
      refine vv_aload_n 54 dX9_count_53 rfl rfl ?_
      refine gf_RX9_223 57 dX9_count_54 rfl t_a0 ?_
      exact VV.lle (v_X9_count_57 t_a0 k19 hk19 hf) (lle_s (lle_s (lle_s (lle_n (lle_s (lle_s (lle_s lle_nil)))))))
    · rw [if_neg c15] at hf
      refine vv_iconst 50 (v := 0) dX9_count_49 rfl (by decide) ?_
      refine vv_goto 57 dX9_count_50 (by decide) ?_
      exact VV.lle (v_X9_count_57 t_a0 k19 hk19 hf) (lle_s (lle_s (lle_s (lle_n (lle_s (lle_s (lle_s lle_nil)))))))

theorem v_X9_count_19 {w : Wo} {K : Kn} {a0 : Nat} {x1 : Int32} {x2 : Int32} {q : (Int32 × Mem)} (t_a0 : K a0 = some (.inl 8)) : ∀ (n : Nat) (m : Mem) (x3 : Int32) (x4 : Int32) (x5 : Int32), f_X9_count_19 K a0 x1 x2 n m x3 x4 x5 = some q → VV w RX9 cX9_count 7 (some .int) rm_X9_count false (QM w K (some (.int q.1)) q.2 0 0) K 19 [some (.ref a0), some (.int x1), some (.int x2), some (.int x3), some (.int x4), some (.int x5), none] [] 0 0 m := by
  intro n
  induction n with
  | zero => intro m x3 x4 x5 hf; cases hf
  | succ n ih => intro m x3 x4 x5 hf; exact v_X9_count_19B (a0 := a0) (x1 := x1) (x2 := x2) t_a0 (f_X9_count_19 K a0 x1 x2 n) ih hf

set_option maxHeartbeats 4000000 in
theorem v_X9_count_0 {w : Wo} {K : Kn} {a0 : Nat} {x1 : Int32} {x2 : Int32} {q : (Int32 × Mem)} (t_a0 : K a0 = some (.inl 8)) {m : Mem} (hf : f_X9_count K a0 x1 x2 m = some q) : VV w RX9 cX9_count 7 (some .int) rm_X9_count false (QM w K (some (.int q.1)) q.2 0 0) K 0 [some (.ref a0), some (.int x1), some (.int x2), none, none, none, none] [] 0 0 m := by
  unfold f_X9_count at hf
  refine vv_aload_n 1 dX9_count_0 rfl rfl ?_
  refine vv_iload_n 2 dX9_count_1 rfl rfl ?_
  obtain ⟨q1, g_q1, hf⟩ := bind_s hf
  refine vv_callV 5 (st := []) (As := [.int x1]) (stk2 := [.int q1]) (cl2 := 0) (sl2 := 0) dX9_count_2 rfl lk_RX9_87 w_1220 w_21 rfl t_a0 ⟨(Nat.le_of_ble_eq_true rfl), (Nat.le_of_ble_eq_true rfl)⟩ rfl rfl ⟨(Nat.le_of_ble_eq_true rfl), (Nat.le_of_ble_eq_true rfl)⟩ rfl (Nat.le_of_ble_eq_true rfl) rfl rfl rfl rfl (c_X9_isSeries t_a0 g_q1) ?_
  refine vv_if_ne 11 8 dX9_count_5 rfl (by decide) (fun c2 => ?_) (fun c2 => ?_)
  · rw [if_pos c2] at hf
    refine vv_bipush 10 (v := (-2)) dX9_count_8 rfl (by decide) ?_
    obtain rfl := Option.some.inj hf
    exact vv_iret dX9_count_10 rfl
  · rw [if_neg c2] at hf
    refine vv_iconst 12 (v := 0) dX9_count_11 rfl (by decide) ?_
    refine vv_istore_n 13 (L' := [some (.ref a0), some (.int x1), some (.int x2), some (.int (0 : Int32)), none, none, none]) dX9_count_12 rfl (Nat.le_of_ble_eq_true rfl) rfl ?_
    refine vv_iconst 14 (v := 0) dX9_count_13 rfl (by decide) ?_
    refine vv_istore 16 (L' := [some (.ref a0), some (.int x1), some (.int x2), some (.int (0 : Int32)), some (.int (0 : Int32)), none, none]) dX9_count_14 rfl (Nat.le_of_ble_eq_true rfl) rfl ?_
    refine vv_iconst 17 (v := 0) dX9_count_16 rfl (by decide) ?_
    refine vv_istore 19 (L' := [some (.ref a0), some (.int x1), some (.int x2), some (.int (0 : Int32)), some (.int (0 : Int32)), some (.int (0 : Int32)), none]) dX9_count_17 rfl (Nat.le_of_ble_eq_true rfl) rfl ?_
    exact v_X9_count_19 t_a0 FU _ _ _ _ hf

theorem c_X9_count {w : Wo} {K : Kn} {a0 : Nat} {x1 : Int32} {x2 : Int32} {q : (Int32 × Mem)} {m : Mem} (t_a0 : K a0 = some (.inl 8)) (hf : F_X9_count K m a0 x1 x2 = some q) : MM w K K yX9_count cX9_count 7 (some .int) rm_X9_count [.ref a0, .int x1, .int x2] m (some (.int q.1)) q.2 0 0 :=
  mm_of (ini := false) (n := 4) (plainFor_of_name (by decide)) rfl (fun h => by first | rfl | cases h) (Nat.le_of_ble_eq_true rfl) rfl (v_X9_count_0 t_a0 hf)

set_option maxHeartbeats 4000000 in
theorem v_X9_isBlock_30 {w : Wo} {K : Kn} {a0 : Nat} {x1 : Int32} {x2 : Int32} {q : Int32} {m : Mem} (t_a0 : K a0 = some (.inl 8)) (hf : f_X9_isBlock_30 K m a0 x1 x2 = some q) : VV w RX9 cX9_isBlock 3 (some .boolean) rm_X9_isBlock false (QM w K (some (.int q)) m 0 0) K 30 [none, none, none] [] 0 0 m := by
  unfold f_X9_isBlock_30 at hf
  refine vv_iconst 31 (v := 0) dX9_isBlock_30 rfl (by decide) ?_
  obtain rfl := Option.some.inj hf
  exact vv_zret dX9_isBlock_31 rfl (Or.inl rfl)

set_option maxHeartbeats 4000000 in
theorem v_X9_isBlock_0 {w : Wo} {K : Kn} {a0 : Nat} {x1 : Int32} {x2 : Int32} {q : Int32} {m : Mem} (t_a0 : K a0 = some (.inl 8)) (hf : f_X9_isBlock K m a0 x1 x2 = some q) : VV w RX9 cX9_isBlock 3 (some .boolean) rm_X9_isBlock false (QM w K (some (.int q)) m 0 0) K 0 [some (.ref a0), some (.int x1), some (.int x2)] [] 0 0 m := by
  unfold f_X9_isBlock at hf
  refine vv_aload_n 1 dX9_isBlock_0 rfl rfl ?_
  refine vv_iload_n 2 dX9_isBlock_1 rfl rfl ?_
  obtain ⟨q1, g_q1, hf⟩ := bind_s hf
  refine vv_callV 5 (st := []) (As := [.int x1]) (stk2 := [.int q1]) (cl2 := 0) (sl2 := 0) dX9_isBlock_2 rfl lk_RX9_87 w_1220 w_21 rfl t_a0 ⟨(Nat.le_of_ble_eq_true rfl), (Nat.le_of_ble_eq_true rfl)⟩ rfl rfl ⟨(Nat.le_of_ble_eq_true rfl), (Nat.le_of_ble_eq_true rfl)⟩ rfl (Nat.le_of_ble_eq_true rfl) rfl rfl rfl rfl (c_X9_isSeries t_a0 g_q1) ?_
  refine vv_if_eq 30 8 dX9_isBlock_5 rfl (by decide) (fun c2 => ?_) (fun c2 => ?_)
  · rw [if_pos c2] at hf
    exact VV.lle (v_X9_isBlock_30 t_a0 hf) (lle_n (lle_n (lle_n lle_nil)))
  · rw [if_neg c2] at hf
    refine vv_iload_n 9 dX9_isBlock_8 rfl rfl ?_
    refine vv_i2l 10 dX9_isBlock_9 rfl ?_
    refine vv_lconst 11 (v := 0) dX9_isBlock_10 rfl (by decide) ?_
    refine vv_aload_n 12 dX9_isBlock_11 rfl rfl ?_
    obtain ⟨b3, g_b3, hf⟩ := bind_s hf
    have t_b3 := (ldA_spec g_b3).2
    refine gf_RX9_16 15 dX9_isBlock_12 rfl t_a0 (ldA_spec g_b3).1 ?_
    refine vv_iload_n 16 dX9_isBlock_15 rfl rfl ?_
    obtain ⟨r4, g_r4, hf⟩ := bind_s hf
    refine vv_iald 17 dX9_isBlock_16 rfl t_b3 g_r4 ?_
    refine vv_iconst 18 (v := 1) dX9_isBlock_17 rfl (by decide) ?_
    refine vv_isub 19 dX9_isBlock_18 rfl ?_
    refine vv_i2l 20 dX9_isBlock_19 rfl ?_
    obtain ⟨q5, g_q5, hf⟩ := bind_s hf
    refine vv_callS 23 (st := []) (As := [.long ((x2).toInt64), .long (0 : Int64), .long ((r4 - (1 : Int32)).toInt64)]) (stk2 := [.int q5]) (cl2 := 0) (sl2 := 0) dX9_isBlock_20 rfl lk_RX9_83 w_1206 ⟨(Nat.le_of_ble_eq_true rfl), (Nat.le_of_ble_eq_true rfl)⟩ rfl rfl ⟨(Nat.le_of_ble_eq_true rfl), (Nat.le_of_ble_eq_true rfl)⟩ rfl (Nat.le_of_ble_eq_true rfl) rfl rfl rfl rfl (c_X9_in g_q5) ?_
    refine vv_if_eq 30 26 dX9_isBlock_23 rfl (by decide) (fun c6 => ?_) (fun c6 => ?_)
    · rw [if_pos c6] at hf
      exact VV.lle (v_X9_isBlock_30 t_a0 hf) (lle_n (lle_n (lle_n lle_nil)))
    · rw [if_neg c6] at hf
      refine vv_iconst 27 (v := 1) dX9_isBlock_26 rfl (by decide) ?_
      refine vv_goto 31 dX9_isBlock_27 (by decide) ?_
      obtain rfl := Option.some.inj hf
      exact vv_zret dX9_isBlock_31 rfl (Or.inr rfl)

theorem c_X9_isBlock {w : Wo} {K : Kn} {a0 : Nat} {x1 : Int32} {x2 : Int32} {q : Int32} {m : Mem} (t_a0 : K a0 = some (.inl 8)) (hf : F_X9_isBlock K m a0 x1 x2 = some q) : MM w K K yX9_isBlock cX9_isBlock 3 (some .boolean) rm_X9_isBlock [.ref a0, .int x1, .int x2] m (some (.int q)) m 0 0 :=
  mm_of (ini := false) (n := 0) (plainFor_of_name (by decide)) rfl (fun h => by first | rfl | cases h) (Nat.le_of_ble_eq_true rfl) rfl (v_X9_isBlock_0 t_a0 hf)

set_option maxHeartbeats 4000000 in
theorem v_X9_block_42 {w : Wo} {K : Kn} {a0 : Nat} {x1 : Int32} {x2 : Int32} {x3 : Int32} {q : (Int32 × Mem)} (t_a0 : K a0 = some (.inl 8)) {m : Mem} {x4 : Int32} (hf : f_X9_block_42 K a0 x1 x2 x3 m x4 = some q) : VV w RX9 cX9_block 5 (some .int) rm_X9_block false (QM w K (some (.int q.1)) q.2 0 0) K 42 [some (.ref a0), none, none, some (.int x3), some (.int x4)] [] 0 0 m := by
  unfold f_X9_block_42 at hf
  refine vv_iload_n 43 dX9_block_42 rfl rfl ?_
  refine vv_iconst 44 (v := 3) dX9_block_43 rfl (by decide) ?_
  refine vv_icmp_ne 57 47 dX9_block_44 rfl (by decide) (fun c1 => ?_) (fun c1 => ?_)
  · rw [if_pos c1] at hf
    refine vv_aload_n 48 dX9_block_47 rfl rfl ?_
    obtain ⟨b2, g_b2, hf⟩ := bind_s hf
    have t_b2 := (ldA_spec g_b2).2
    refine gf_RX9_22 51 dX9_block_48 rfl t_a0 (ldA_spec g_b2).1 ?_
    refine vv_iload 53 dX9_block_51 rfl rfl ?_
    obtain ⟨r3, g_r3, hf⟩ := bind_s hf
    refine vv_iald 54 dX9_block_53 rfl t_b2 g_r3 ?_
    refine vv_goto 72 dX9_block_54 (by decide) ?_
    obtain rfl := Option.some.inj hf
    exact vv_iret dX9_block_72 rfl
  · rw [if_neg c1] at hf
    refine vv_aload_n 58 dX9_block_57 rfl rfl ?_
    obtain ⟨b4, g_b4, hf⟩ := bind_s hf
    have t_b4 := (ldA_spec g_b4).2
    refine gf_RX9_28 61 dX9_block_58 rfl t_a0 (ldA_spec g_b4).1 ?_
    refine vv_iload 63 dX9_block_61 rfl rfl ?_
    obtain ⟨r5, g_r5, hf⟩ := bind_s hf
    refine vv_zald 64 dX9_block_63 rfl t_b4 g_r5 ?_
    refine vv_if_eq 71 67 dX9_block_64 rfl (by decide) (fun c6 => ?_) (fun c6 => ?_)
    · rw [if_pos c6] at hf
      refine vv_iconst 72 (v := 0) dX9_block_71 rfl (by decide) ?_
      obtain rfl := Option.some.inj hf
      exact vv_iret dX9_block_72 rfl
    · rw [if_neg c6] at hf
      refine vv_iconst 68 (v := 1) dX9_block_67 rfl (by decide) ?_
      refine vv_goto 72 dX9_block_68 (by decide) ?_
      obtain rfl := Option.some.inj hf
      exact vv_iret dX9_block_72 rfl

set_option maxHeartbeats 4000000 in
theorem v_X9_block_131 {w : Wo} {K : Kn} {a0 : Nat} {x1 : Int32} {x2 : Int32} {x3 : Int32} {q : (Int32 × Mem)} (t_a0 : K a0 = some (.inl 8)) {m : Mem} {s0 : Int64} (hf : f_X9_block_131 K a0 x1 x2 x3 m s0 = some q) : VV w RX9 cX9_block 5 (some .int) rm_X9_block false (QM w K (some (.int q.1)) q.2 0 0) K 131 [none, none, none, none, none] [.long s0] 0 0 m := by
  unfold f_X9_block_131 at hf
  refine vv_l2i 132 dX9_block_131 rfl ?_
  obtain rfl := Option.some.inj hf
  exact vv_iret dX9_block_132 rfl

set_option maxHeartbeats 4000000 in
theorem v_X9_block_0 {w : Wo} {K : Kn} {a0 : Nat} {x1 : Int32} {x2 : Int32} {x3 : Int32} {q : (Int32 × Mem)} (t_a0 : K a0 = some (.inl 8)) {m : Mem} (hf : f_X9_block K a0 x1 x2 x3 m = some q) : VV w RX9 cX9_block 5 (some .int) rm_X9_block false (QM w K (some (.int q.1)) q.2 0 0) K 0 [some (.ref a0), some (.int x1), some (.int x2), some (.int x3), none] [] 0 0 m := by
  unfold f_X9_block at hf
  refine vv_aload_n 1 dX9_block_0 rfl rfl ?_
  refine vv_iload_n 2 dX9_block_1 rfl rfl ?_
  refine vv_iload_n 3 dX9_block_2 rfl rfl ?_
  obtain ⟨q1, g_q1, hf⟩ := bind_s hf
  refine vv_callV 6 (st := []) (As := [.int x1, .int x2]) (stk2 := [.int q1]) (cl2 := 0) (sl2 := 0) dX9_block_3 rfl lk_RX9_306 w_1402 w_51 rfl t_a0 ⟨(Nat.le_of_ble_eq_true rfl), (Nat.le_of_ble_eq_true rfl)⟩ rfl rfl ⟨(Nat.le_of_ble_eq_true rfl), (Nat.le_of_ble_eq_true rfl)⟩ rfl (Nat.le_of_ble_eq_true rfl) rfl rfl rfl rfl (c_X9_isBlock t_a0 g_q1) ?_
  refine vv_if_eq 21 9 dX9_block_6 rfl (by decide) (fun c2 => ?_) (fun c2 => ?_)
  · rw [if_pos c2] at hf
    refine vv_bipush 23 (v := (-2)) dX9_block_21 rfl (by decide) ?_
    obtain rfl := Option.some.inj hf
    exact vv_iret dX9_block_23 rfl
  · rw [if_neg c2] at hf
    refine vv_iload_n 10 dX9_block_9 rfl rfl ?_
    refine vv_i2l 11 dX9_block_10 rfl ?_
    refine vv_lconst 12 (v := 0) dX9_block_11 rfl (by decide) ?_
    refine vv_ldc2 15 (v := 5) dX9_block_12 rfl w_1404 ?_
    obtain ⟨q3, g_q3, hf⟩ := bind_s hf
    refine vv_callS 18 (st := []) (As := [.long ((x3).toInt64), .long (0 : Int64), .long (5 : Int64)]) (stk2 := [.int q3]) (cl2 := 0) (sl2 := 0) dX9_block_15 rfl lk_RX9_83 w_1206 ⟨(Nat.le_of_ble_eq_true rfl), (Nat.le_of_ble_eq_true rfl)⟩ rfl rfl ⟨(Nat.le_of_ble_eq_true rfl), (Nat.le_of_ble_eq_true rfl)⟩ rfl (Nat.le_of_ble_eq_true rfl) rfl rfl rfl rfl (c_X9_in g_q3) ?_
    refine vv_if_ne 24 21 dX9_block_18 rfl (by decide) (fun c4 => ?_) (fun c4 => ?_)
    · rw [if_pos c4] at hf
      refine vv_bipush 23 (v := (-2)) dX9_block_21 rfl (by decide) ?_
      obtain rfl := Option.some.inj hf
      exact vv_iret dX9_block_23 rfl
    · rw [if_neg c4] at hf
      refine vv_bipush 26 (v := 16) dX9_block_24 rfl (by decide) ?_
      refine vv_iload_n 27 dX9_block_26 rfl rfl ?_
      refine vv_imul 28 dX9_block_27 rfl ?_
      refine vv_iload_n 29 dX9_block_28 rfl rfl ?_
      refine vv_iadd 30 dX9_block_29 rfl ?_
      obtain ⟨z5, e_z5, hf⟩ := bd_s hf
      refine vv_istoreE (q := 32) (v := z5) (L' := [some (.ref a0), some (.int x1), some (.int x2), some (.int x3), some (.int z5)]) e_z5 dX9_block_30 rfl (Nat.le_of_ble_eq_true rfl) rfl ?_
      refine vv_iload_n 33 dX9_block_32 rfl rfl ?_
      refine vv_iconst 34 (v := 3) dX9_block_33 rfl (by decide) ?_
      refine vv_icmp_eq 42 37 dX9_block_34 rfl (by decide) (fun c6 => ?_) (fun c6 => ?_)
      · rw [if_pos c6] at hf
        exact VV.lle (v_X9_block_42 t_a0 hf) (lle_s (lle_n (lle_n (lle_s (lle_s lle_nil)))))
      · rw [if_neg c6] at hf
        refine vv_iload_n 38 dX9_block_37 rfl rfl ?_
        refine vv_iconst 39 (v := 5) dX9_block_38 rfl (by decide) ?_
        refine vv_icmp_ne 73 42 dX9_block_39 rfl (by decide) (fun c7 => ?_) (fun c7 => ?_)
        · rw [if_pos c7] at hf
          exact VV.lle (v_X9_block_42 t_a0 hf) (lle_s (lle_n (lle_n (lle_s (lle_s lle_nil)))))
        · rw [if_neg c7] at hf
          refine vv_aload_n 74 dX9_block_73 rfl rfl ?_
          refine vv_iload 76 dX9_block_74 rfl rfl ?_
          obtain ⟨q8, g_q8, hf⟩ := bind_s hf
          refine vv_callV 79 (st := []) (As := [.int z5]) (stk2 := [.int q8.1]) (cl2 := 0) (sl2 := 0) dX9_block_76 rfl lk_RX9_245 w_1365 w_44 rfl t_a0 ⟨(Nat.le_of_ble_eq_true rfl), (Nat.le_of_ble_eq_true rfl)⟩ rfl rfl ⟨(Nat.le_of_ble_eq_true rfl), (Nat.le_of_ble_eq_true rfl)⟩ rfl (Nat.le_of_ble_eq_true rfl) rfl rfl rfl rfl (c_X9_isBroken t_a0 g_q8) ?_
          refine vv_if_eq 85 82 dX9_block_79 rfl (by decide) (fun c9 => ?_) (fun c9 => ?_)
          · rw [if_pos c9] at hf
            refine vv_iload_n 86 dX9_block_85 rfl rfl ?_
            refine vv_if_ne 98 89 dX9_block_86 rfl (by decide) (fun c10 => ?_) (fun c10 => ?_)
            · rw [if_pos c10] at hf
              refine vv_aload_n 90 dX9_block_89 rfl rfl ?_
              obtain ⟨b11, g_b11, hf⟩ := bind_s hf
              have t_b11 := (ldA_spec g_b11).2
              refine gf_RX9_51 93 dX9_block_90 rfl t_a0 (ldA_spec g_b11).1 ?_
              refine vv_iconst 94 (v := 0) dX9_block_93 rfl (by decide) ?_
              obtain ⟨r12, g_r12, hf⟩ := bind_s hf
              refine vv_lald 95 dX9_block_94 rfl t_b11 g_r12 ?_
              refine vv_goto 131 dX9_block_95 (by decide) ?_
              exact VV.lle (v_X9_block_131 t_a0 hf) (lle_n (lle_n (lle_n (lle_n (lle_n lle_nil)))))
            · rw [if_neg c10] at hf
              refine vv_iload_n 99 dX9_block_98 rfl rfl ?_
              refine vv_iconst 100 (v := 1) dX9_block_99 rfl (by decide) ?_
              refine vv_icmp_ne 110 103 dX9_block_100 rfl (by decide) (fun c13 => ?_) (fun c13 => ?_)
              · rw [if_pos c13] at hf
                refine vv_aload_n 104 dX9_block_103 rfl rfl ?_
                refine gf_RX9_149 107 dX9_block_104 rfl t_a0 ?_
                refine vv_goto 131 dX9_block_107 (by decide) ?_
                exact VV.lle (v_X9_block_131 t_a0 hf) (lle_n (lle_n (lle_n (lle_n (lle_n lle_nil)))))
              · rw [if_neg c13] at hf
                refine vv_iload_n 111 dX9_block_110 rfl rfl ?_
                refine vv_iconst 112 (v := 2) dX9_block_111 rfl (by decide) ?_
                refine vv_icmp_ne 123 115 dX9_block_112 rfl (by decide) (fun c14 => ?_) (fun c14 => ?_)
                · rw [if_pos c14] at hf
                  refine vv_aload_n 116 dX9_block_115 rfl rfl ?_
                  refine gf_RX9_223 119 dX9_block_116 rfl t_a0 ?_
                  refine vv_i2l 120 dX9_block_119 rfl ?_
                  refine vv_goto 131 dX9_block_120 (by decide) ?_
                  exact VV.lle (v_X9_block_131 t_a0 hf) (lle_n (lle_n (lle_n (lle_n (lle_n lle_nil)))))
                · rw [if_neg c14] at hf
                  refine vv_aload_n 124 dX9_block_123 rfl rfl ?_
                  obtain ⟨b15, g_b15, hf⟩ := bind_s hf
                  have t_b15 := (ldA_spec g_b15).2
                  refine gf_RX9_25 127 dX9_block_124 rfl t_a0 (ldA_spec g_b15).1 ?_
                  refine vv_iload 129 dX9_block_127 rfl rfl ?_
                  obtain ⟨r16, g_r16, hf⟩ := bind_s hf
                  refine vv_iald 130 dX9_block_129 rfl t_b15 g_r16 ?_
                  refine vv_i2l 131 dX9_block_130 rfl ?_
                  exact VV.lle (v_X9_block_131 t_a0 hf) (lle_n (lle_n (lle_n (lle_n (lle_n lle_nil)))))
          · rw [if_neg c9] at hf
            refine vv_bipush 84 (v := (-6)) dX9_block_82 rfl (by decide) ?_
            obtain rfl := Option.some.inj hf
            exact vv_iret dX9_block_84 rfl

theorem c_X9_block {w : Wo} {K : Kn} {a0 : Nat} {x1 : Int32} {x2 : Int32} {x3 : Int32} {q : (Int32 × Mem)} {m : Mem} (t_a0 : K a0 = some (.inl 8)) (hf : F_X9_block K m a0 x1 x2 x3 = some q) : MM w K K yX9_block cX9_block 5 (some .int) rm_X9_block [.ref a0, .int x1, .int x2, .int x3] m (some (.int q.1)) q.2 0 0 :=
  mm_of (ini := false) (n := 1) (plainFor_of_name (by decide)) rfl (fun h => by first | rfl | cases h) (Nat.le_of_ble_eq_true rfl) rfl (v_X9_block_0 t_a0 hf)

set_option maxHeartbeats 4000000 in
theorem v_X9_octet_0 {w : Wo} {K : Kn} {a0 : Nat} {x1 : Int32} {x2 : Int32} {x3 : Int32} {q : Int32} {m : Mem} (t_a0 : K a0 = some (.inl 8)) (hf : f_X9_octet K m a0 x1 x2 x3 = some q) : VV w RX9 cX9_octet 4 (some .int) rm_X9_octet false (QM w K (some (.int q)) m 0 0) K 0 [some (.ref a0), some (.int x1), some (.int x2), some (.int x3)] [] 0 0 m := by
  unfold f_X9_octet at hf
  refine vv_aload_n 1 dX9_octet_0 rfl rfl ?_
  refine vv_iload_n 2 dX9_octet_1 rfl rfl ?_
  refine vv_iload_n 3 dX9_octet_2 rfl rfl ?_
  obtain ⟨q1, g_q1, hf⟩ := bind_s hf
  refine vv_callV 6 (st := []) (As := [.int x1, .int x2]) (stk2 := [.int q1]) (cl2 := 0) (sl2 := 0) dX9_octet_3 rfl lk_RX9_306 w_1402 w_51 rfl t_a0 ⟨(Nat.le_of_ble_eq_true rfl), (Nat.le_of_ble_eq_true rfl)⟩ rfl rfl ⟨(Nat.le_of_ble_eq_true rfl), (Nat.le_of_ble_eq_true rfl)⟩ rfl (Nat.le_of_ble_eq_true rfl) rfl rfl rfl rfl (c_X9_isBlock t_a0 g_q1) ?_
  refine vv_if_ne 12 9 dX9_octet_6 rfl (by decide) (fun c2 => ?_) (fun c2 => ?_)
  · rw [if_pos c2] at hf
    refine vv_bipush 11 (v := (-2)) dX9_octet_9 rfl (by decide) ?_
    obtain rfl := Option.some.inj hf
    exact vv_iret dX9_octet_11 rfl
  · rw [if_neg c2] at hf
    refine vv_iload_n 13 dX9_octet_12 rfl rfl ?_
    refine vv_i2l 14 dX9_octet_13 rfl ?_
    refine vv_lconst 15 (v := 0) dX9_octet_14 rfl (by decide) ?_
    refine vv_aload_n 16 dX9_octet_15 rfl rfl ?_
    obtain ⟨b3, g_b3, hf⟩ := bind_s hf
    have t_b3 := (ldA_spec g_b3).2
    refine gf_RX9_22 19 dX9_octet_16 rfl t_a0 (ldA_spec g_b3).1 ?_
    refine vv_bipush 21 (v := 16) dX9_octet_19 rfl (by decide) ?_
    refine vv_iload_n 22 dX9_octet_21 rfl rfl ?_
    refine vv_imul 23 dX9_octet_22 rfl ?_
    refine vv_iload_n 24 dX9_octet_23 rfl rfl ?_
    refine vv_iadd 25 dX9_octet_24 rfl ?_
    obtain ⟨r4, g_r4, hf⟩ := bind_s hf
    refine vv_iald 26 dX9_octet_25 rfl t_b3 g_r4 ?_
    refine vv_iconst 27 (v := 1) dX9_octet_26 rfl (by decide) ?_
    refine vv_isub 28 dX9_octet_27 rfl ?_
    refine vv_i2l 29 dX9_octet_28 rfl ?_
    obtain ⟨q5, g_q5, hf⟩ := bind_s hf
    refine vv_callS 32 (st := []) (As := [.long ((x3).toInt64), .long (0 : Int64), .long ((r4 - (1 : Int32)).toInt64)]) (stk2 := [.int q5]) (cl2 := 0) (sl2 := 0) dX9_octet_29 rfl lk_RX9_83 w_1206 ⟨(Nat.le_of_ble_eq_true rfl), (Nat.le_of_ble_eq_true rfl)⟩ rfl rfl ⟨(Nat.le_of_ble_eq_true rfl), (Nat.le_of_ble_eq_true rfl)⟩ rfl (Nat.le_of_ble_eq_true rfl) rfl rfl rfl rfl (c_X9_in g_q5) ?_
    refine vv_if_eq 49 35 dX9_octet_32 rfl (by decide) (fun c6 => ?_) (fun c6 => ?_)
    · rw [if_pos c6] at hf
      refine vv_iconst 50 (v := (-1)) dX9_octet_49 rfl (by decide) ?_
      obtain rfl := Option.some.inj hf
      exact vv_iret dX9_octet_50 rfl
    · rw [if_neg c6] at hf
      refine vv_aload_n 36 dX9_octet_35 rfl rfl ?_
      refine vv_bipush 38 (v := 16) dX9_octet_36 rfl (by decide) ?_
      refine vv_iload_n 39 dX9_octet_38 rfl rfl ?_
      refine vv_imul 40 dX9_octet_39 rfl ?_
      refine vv_iload_n 41 dX9_octet_40 rfl rfl ?_
      refine vv_iadd 42 dX9_octet_41 rfl ?_
      refine vv_iload_n 43 dX9_octet_42 rfl rfl ?_
      obtain ⟨q7, g_q7, hf⟩ := bind_s hf
      refine vv_callV 46 (st := []) (As := [.int (((16 : Int32) * x1) + x2), .int x3]) (stk2 := [.int q7]) (cl2 := 0) (sl2 := 0) dX9_octet_43 rfl lk_RX9_107 w_1248 w_27 rfl t_a0 ⟨(Nat.le_of_ble_eq_true rfl), (Nat.le_of_ble_eq_true rfl)⟩ rfl rfl ⟨(Nat.le_of_ble_eq_true rfl), (Nat.le_of_ble_eq_true rfl)⟩ rfl (Nat.le_of_ble_eq_true rfl) rfl rfl rfl rfl (c_X9_byteAt t_a0 g_q7) ?_
      refine vv_goto 50 dX9_octet_46 (by decide) ?_
      obtain rfl := Option.some.inj hf
      exact vv_iret dX9_octet_50 rfl

theorem c_X9_octet {w : Wo} {K : Kn} {a0 : Nat} {x1 : Int32} {x2 : Int32} {x3 : Int32} {q : Int32} {m : Mem} (t_a0 : K a0 = some (.inl 8)) (hf : F_X9_octet K m a0 x1 x2 x3 = some q) : MM w K K yX9_octet cX9_octet 4 (some .int) rm_X9_octet [.ref a0, .int x1, .int x2, .int x3] m (some (.int q)) m 0 0 :=
  mm_of (ini := false) (n := 0) (plainFor_of_name (by decide)) rfl (fun h => by first | rfl | cases h) (Nat.le_of_ble_eq_true rfl) rfl (v_X9_octet_0 t_a0 hf)

set_option maxHeartbeats 4000000 in
theorem v_X9_fault_0 {w : Wo} {K : Kn} {a0 : Nat} {x1 : Int32} {x2 : Int32} {x3 : Int32} {q : (Int32 × Mem)} (t_a0 : K a0 = some (.inl 8)) {m : Mem} (hf : f_X9_fault K a0 x1 x2 x3 m = some q) : VV w RX9 cX9_fault 4 (some .int) rm_X9_fault false (QM w K (some (.int q.1)) q.2 0 0) K 0 [some (.ref a0), some (.int x1), some (.int x2), some (.int x3)] [] 0 0 m := by
  unfold f_X9_fault at hf
  refine vv_aload_n 1 dX9_fault_0 rfl rfl ?_
  refine vv_iload_n 2 dX9_fault_1 rfl rfl ?_
  refine vv_iload_n 3 dX9_fault_2 rfl rfl ?_
  obtain ⟨q1, g_q1, hf⟩ := bind_s hf
  refine vv_callV 6 (st := []) (As := [.int x1, .int x2]) (stk2 := [.int q1]) (cl2 := 0) (sl2 := 0) dX9_fault_3 rfl lk_RX9_306 w_1402 w_51 rfl t_a0 ⟨(Nat.le_of_ble_eq_true rfl), (Nat.le_of_ble_eq_true rfl)⟩ rfl rfl ⟨(Nat.le_of_ble_eq_true rfl), (Nat.le_of_ble_eq_true rfl)⟩ rfl (Nat.le_of_ble_eq_true rfl) rfl rfl rfl rfl (c_X9_isBlock t_a0 g_q1) ?_
  refine vv_if_eq 19 9 dX9_fault_6 rfl (by decide) (fun c2 => ?_) (fun c2 => ?_)
  · rw [if_pos c2] at hf
    refine vv_bipush 21 (v := (-2)) dX9_fault_19 rfl (by decide) ?_
    obtain rfl := Option.some.inj hf
    exact vv_iret dX9_fault_21 rfl
  · rw [if_neg c2] at hf
    refine vv_iload_n 10 dX9_fault_9 rfl rfl ?_
    refine vv_i2l 11 dX9_fault_10 rfl ?_
    refine vv_lconst 12 (v := 0) dX9_fault_11 rfl (by decide) ?_
    refine vv_lconst 13 (v := 1) dX9_fault_12 rfl (by decide) ?_
    obtain ⟨q3, g_q3, hf⟩ := bind_s hf
    refine vv_callS 16 (st := []) (As := [.long ((x3).toInt64), .long (0 : Int64), .long (1 : Int64)]) (stk2 := [.int q3]) (cl2 := 0) (sl2 := 0) dX9_fault_13 rfl lk_RX9_83 w_1206 ⟨(Nat.le_of_ble_eq_true rfl), (Nat.le_of_ble_eq_true rfl)⟩ rfl rfl ⟨(Nat.le_of_ble_eq_true rfl), (Nat.le_of_ble_eq_true rfl)⟩ rfl (Nat.le_of_ble_eq_true rfl) rfl rfl rfl rfl (c_X9_in g_q3) ?_
    refine vv_if_ne 22 19 dX9_fault_16 rfl (by decide) (fun c4 => ?_) (fun c4 => ?_)
    · rw [if_pos c4] at hf
      refine vv_bipush 21 (v := (-2)) dX9_fault_19 rfl (by decide) ?_
      obtain rfl := Option.some.inj hf
      exact vv_iret dX9_fault_21 rfl
    · rw [if_neg c4] at hf
      refine vv_aload_n 23 dX9_fault_22 rfl rfl ?_
      refine vv_bipush 25 (v := 16) dX9_fault_23 rfl (by decide) ?_
      refine vv_iload_n 26 dX9_fault_25 rfl rfl ?_
      refine vv_imul 27 dX9_fault_26 rfl ?_
      refine vv_iload_n 28 dX9_fault_27 rfl rfl ?_
      refine vv_iadd 29 dX9_fault_28 rfl ?_
      obtain ⟨q5, g_q5, hf⟩ := bind_s hf
      refine vv_callV 32 (st := []) (As := [.int (((16 : Int32) * x1) + x2)]) (stk2 := []) (cl2 := 0) (sl2 := 0) dX9_fault_29 rfl lk_RX9_242 w_1236 w_24 rfl t_a0 ⟨(Nat.le_of_ble_eq_true rfl), (Nat.le_of_ble_eq_true rfl)⟩ rfl rfl ⟨(Nat.le_of_ble_eq_true rfl), (Nat.le_of_ble_eq_true rfl)⟩ rfl (Nat.le_of_ble_eq_true rfl) rfl rfl rfl rfl (c_X9_reads t_a0 g_q5) ?_
      refine vv_iload_n 33 dX9_fault_32 rfl rfl ?_
      refine vv_if_ne 43 36 dX9_fault_33 rfl (by decide) (fun c6 => ?_) (fun c6 => ?_)
      · rw [if_pos c6] at hf
        refine vv_aload_n 37 dX9_fault_36 rfl rfl ?_
        refine gf_RX9_203 40 dX9_fault_37 rfl t_a0 ?_
        refine vv_goto 47 dX9_fault_40 (by decide) ?_
        obtain rfl := Option.some.inj hf
        exact vv_iret dX9_fault_47 rfl
      · rw [if_neg c6] at hf
        refine vv_aload_n 44 dX9_fault_43 rfl rfl ?_
        refine gf_RX9_206 47 dX9_fault_44 rfl t_a0 ?_
        obtain rfl := Option.some.inj hf
        exact vv_iret dX9_fault_47 rfl

theorem c_X9_fault {w : Wo} {K : Kn} {a0 : Nat} {x1 : Int32} {x2 : Int32} {x3 : Int32} {q : (Int32 × Mem)} {m : Mem} (t_a0 : K a0 = some (.inl 8)) (hf : F_X9_fault K m a0 x1 x2 x3 = some q) : MM w K K yX9_fault cX9_fault 4 (some .int) rm_X9_fault [.ref a0, .int x1, .int x2, .int x3] m (some (.int q.1)) q.2 0 0 :=
  mm_of (ini := false) (n := 0) (plainFor_of_name (by decide)) rfl (fun h => by first | rfl | cases h) (Nat.le_of_ble_eq_true rfl) rfl (v_X9_fault_0 t_a0 hf)

set_option maxHeartbeats 4000000 in
theorem v_X9_damage_0 {w : Wo} {K : Kn} {a0 : Nat} {x1 : Int32} {x2 : Int32} {x3 : Int32} {x4 : Int32} {q : (Int32 × Mem)} (t_a0 : K a0 = some (.inl 8)) {m : Mem} (hf : f_X9_damage K a0 x1 x2 x3 x4 m = some q) : VV w RX9 cX9_damage 7 (some .int) rm_X9_damage false (QM w K (some (.int q.1)) q.2 0 0) K 0 [some (.ref a0), some (.int x1), some (.int x2), some (.int x3), some (.int x4), none, none] [] 0 0 m := by
  unfold f_X9_damage at hf
  refine vv_aload_n 1 dX9_damage_0 rfl rfl ?_
  refine vv_iload_n 2 dX9_damage_1 rfl rfl ?_
  refine vv_iload_n 3 dX9_damage_2 rfl rfl ?_
  obtain ⟨q1, g_q1, hf⟩ := bind_s hf
  refine vv_callV 6 (st := []) (As := [.int x1, .int x2]) (stk2 := [.int q1]) (cl2 := 0) (sl2 := 0) dX9_damage_3 rfl lk_RX9_306 w_1402 w_51 rfl t_a0 ⟨(Nat.le_of_ble_eq_true rfl), (Nat.le_of_ble_eq_true rfl)⟩ rfl rfl ⟨(Nat.le_of_ble_eq_true rfl), (Nat.le_of_ble_eq_true rfl)⟩ rfl (Nat.le_of_ble_eq_true rfl) rfl rfl rfl rfl (c_X9_isBlock t_a0 g_q1) ?_
  refine vv_if_eq 45 9 dX9_damage_6 rfl (by decide) (fun c2 => ?_) (fun c2 => ?_)
  · rw [if_pos c2] at hf
    refine vv_bipush 47 (v := (-2)) dX9_damage_45 rfl (by decide) ?_
    obtain rfl := Option.some.inj hf
    exact vv_iret dX9_damage_47 rfl
  · rw [if_neg c2] at hf
    refine vv_iload 11 dX9_damage_9 rfl rfl ?_
    refine vv_i2l 12 dX9_damage_11 rfl ?_
    refine vv_lconst 13 (v := 0) dX9_damage_12 rfl (by decide) ?_
    refine vv_ldc2 16 (v := 255) dX9_damage_13 rfl w_1341 ?_
    obtain ⟨q3, g_q3, hf⟩ := bind_s hf
    refine vv_callS 19 (st := []) (As := [.long ((x4).toInt64), .long (0 : Int64), .long (255 : Int64)]) (stk2 := [.int q3]) (cl2 := 0) (sl2 := 0) dX9_damage_16 rfl lk_RX9_83 w_1206 ⟨(Nat.le_of_ble_eq_true rfl), (Nat.le_of_ble_eq_true rfl)⟩ rfl rfl ⟨(Nat.le_of_ble_eq_true rfl), (Nat.le_of_ble_eq_true rfl)⟩ rfl (Nat.le_of_ble_eq_true rfl) rfl rfl rfl rfl (c_X9_in g_q3) ?_
    refine vv_if_eq 45 22 dX9_damage_19 rfl (by decide) (fun c4 => ?_) (fun c4 => ?_)
    · rw [if_pos c4] at hf
      refine vv_bipush 47 (v := (-2)) dX9_damage_45 rfl (by decide) ?_
      obtain rfl := Option.some.inj hf
      exact vv_iret dX9_damage_47 rfl
    · rw [if_neg c4] at hf
      refine vv_iload_n 23 dX9_damage_22 rfl rfl ?_
      refine vv_i2l 24 dX9_damage_23 rfl ?_
      refine vv_lconst 25 (v := 0) dX9_damage_24 rfl (by decide) ?_
      refine vv_aload_n 26 dX9_damage_25 rfl rfl ?_
      obtain ⟨b5, g_b5, hf⟩ := bind_s hf
      have t_b5 := (ldA_spec g_b5).2
      refine gf_RX9_22 29 dX9_damage_26 rfl t_a0 (ldA_spec g_b5).1 ?_
      refine vv_bipush 31 (v := 16) dX9_damage_29 rfl (by decide) ?_
      refine vv_iload_n 32 dX9_damage_31 rfl rfl ?_
      refine vv_imul 33 dX9_damage_32 rfl ?_
      refine vv_iload_n 34 dX9_damage_33 rfl rfl ?_
      refine vv_iadd 35 dX9_damage_34 rfl ?_
      obtain ⟨r6, g_r6, hf⟩ := bind_s hf
      refine vv_iald 36 dX9_damage_35 rfl t_b5 g_r6 ?_
      refine vv_iconst 37 (v := 1) dX9_damage_36 rfl (by decide) ?_
      refine vv_isub 38 dX9_damage_37 rfl ?_
      refine vv_i2l 39 dX9_damage_38 rfl ?_
      obtain ⟨q7, g_q7, hf⟩ := bind_s hf
      refine vv_callS 42 (st := []) (As := [.long ((x3).toInt64), .long (0 : Int64), .long ((r6 - (1 : Int32)).toInt64)]) (stk2 := [.int q7]) (cl2 := 0) (sl2 := 0) dX9_damage_39 rfl lk_RX9_83 w_1206 ⟨(Nat.le_of_ble_eq_true rfl), (Nat.le_of_ble_eq_true rfl)⟩ rfl rfl ⟨(Nat.le_of_ble_eq_true rfl), (Nat.le_of_ble_eq_true rfl)⟩ rfl (Nat.le_of_ble_eq_true rfl) rfl rfl rfl rfl (c_X9_in g_q7) ?_
      refine vv_if_ne 48 45 dX9_damage_42 rfl (by decide) (fun c8 => ?_) (fun c8 => ?_)
      · rw [if_pos c8] at hf
        refine vv_bipush 47 (v := (-2)) dX9_damage_45 rfl (by decide) ?_
        obtain rfl := Option.some.inj hf
        exact vv_iret dX9_damage_47 rfl
      · rw [if_neg c8] at hf
        refine vv_bipush 50 (v := 16) dX9_damage_48 rfl (by decide) ?_
        refine vv_iload_n 51 dX9_damage_50 rfl rfl ?_
        refine vv_imul 52 dX9_damage_51 rfl ?_
        refine vv_iload_n 53 dX9_damage_52 rfl rfl ?_
        refine vv_iadd 54 dX9_damage_53 rfl ?_
        obtain ⟨z9, e_z9, hf⟩ := bd_s hf
        refine vv_istoreE (q := 56) (v := z9) (L' := [some (.ref a0), some (.int x1), some (.int x2), some (.int x3), some (.int x4), some (.int z9), none]) e_z9 dX9_damage_54 rfl (Nat.le_of_ble_eq_true rfl) rfl ?_
        refine vv_aload_n 57 dX9_damage_56 rfl rfl ?_
        obtain ⟨b10, g_b10, hf⟩ := bind_s hf
        have t_b10 := (ldA_spec g_b10).2
        refine gf_RX9_28 60 dX9_damage_57 rfl t_a0 (ldA_spec g_b10).1 ?_
        refine vv_iload 62 dX9_damage_60 rfl rfl ?_
        obtain ⟨r11, g_r11, hf⟩ := bind_s hf
        refine vv_zald 63 dX9_damage_62 rfl t_b10 g_r11 ?_
        refine vv_if_ne 69 66 dX9_damage_63 rfl (by decide) (fun c12 => ?_) (fun c12 => ?_)
        · rw [if_pos c12] at hf
          refine vv_bipush 68 (v := (-5)) dX9_damage_66 rfl (by decide) ?_
          obtain rfl := Option.some.inj hf
          exact vv_iret dX9_damage_68 rfl
        · rw [if_neg c12] at hf
          refine vv_aload_n 70 dX9_damage_69 rfl rfl ?_
          refine vv_iload 72 dX9_damage_70 rfl rfl ?_
          refine vv_iload_n 73 dX9_damage_72 rfl rfl ?_
          obtain ⟨q13, g_q13, hf⟩ := bind_s hf
          refine vv_callV 76 (st := []) (As := [.int z9, .int x3]) (stk2 := [.int q13]) (cl2 := 0) (sl2 := 0) dX9_damage_73 rfl lk_RX9_107 w_1248 w_27 rfl t_a0 ⟨(Nat.le_of_ble_eq_true rfl), (Nat.le_of_ble_eq_true rfl)⟩ rfl rfl ⟨(Nat.le_of_ble_eq_true rfl), (Nat.le_of_ble_eq_true rfl)⟩ rfl (Nat.le_of_ble_eq_true rfl) rfl rfl rfl rfl (c_X9_byteAt t_a0 g_q13) ?_
          refine vv_istore 78 (L' := [some (.ref a0), some (.int x1), some (.int x2), some (.int x3), some (.int x4), some (.int z9), some (.int q13)]) dX9_damage_76 rfl (Nat.le_of_ble_eq_true rfl) rfl ?_
          refine vv_aload_n 79 dX9_damage_78 rfl rfl ?_
          obtain ⟨b14, g_b14, hf⟩ := bind_s hf
          have t_b14 := (ldA_spec g_b14).2
          refine gf_RX9_19 82 dX9_damage_79 rfl t_a0 (ldA_spec g_b14).1 ?_
          refine vv_sipush 85 (v := 200) dX9_damage_82 rfl (by decide) ?_
          refine vv_iload 87 dX9_damage_85 rfl rfl ?_
          refine vv_imul 88 dX9_damage_87 rfl ?_
          refine vv_iload_n 89 dX9_damage_88 rfl rfl ?_
          refine vv_iadd 90 dX9_damage_89 rfl ?_
          refine vv_iload 92 dX9_damage_90 rfl rfl ?_
          obtain ⟨m15, g_m15, hf⟩ := bind_s hf
          refine vv_iast 93 dX9_damage_92 rfl t_b14 g_m15 ?_
          refine vv_iload 95 dX9_damage_93 rfl rfl ?_
          obtain rfl := Option.some.inj hf
          exact vv_iret dX9_damage_95 rfl

theorem c_X9_damage {w : Wo} {K : Kn} {a0 : Nat} {x1 : Int32} {x2 : Int32} {x3 : Int32} {x4 : Int32} {q : (Int32 × Mem)} {m : Mem} (t_a0 : K a0 = some (.inl 8)) (hf : F_X9_damage K m a0 x1 x2 x3 x4 = some q) : MM w K K yX9_damage cX9_damage 7 (some .int) rm_X9_damage [.ref a0, .int x1, .int x2, .int x3, .int x4] m (some (.int q.1)) q.2 0 0 :=
  mm_of (ini := false) (n := 2) (plainFor_of_name (by decide)) rfl (fun h => by first | rfl | cases h) (Nat.le_of_ble_eq_true rfl) rfl (v_X9_damage_0 t_a0 hf)

set_option maxHeartbeats 4000000 in
theorem v_X9_isAsked_19 {w : Wo} {K : Kn} {a0 : Nat} {x1 : Int32} {x2 : Int32} {q : Int32} {m : Mem} (t_a0 : K a0 = some (.inl 8)) (hf : f_X9_isAsked_19 K m a0 x1 x2 = some q) : VV w RX9 cX9_isAsked 3 (some .boolean) rm_X9_isAsked false (QM w K (some (.int q)) m 0 0) K 19 [none, none, none] [] 0 0 m := by
  unfold f_X9_isAsked_19 at hf
  refine vv_iconst 20 (v := 0) dX9_isAsked_19 rfl (by decide) ?_
  obtain rfl := Option.some.inj hf
  exact vv_zret dX9_isAsked_20 rfl (Or.inl rfl)

set_option maxHeartbeats 4000000 in
theorem v_X9_isAsked_0 {w : Wo} {K : Kn} {a0 : Nat} {x1 : Int32} {x2 : Int32} {q : Int32} {m : Mem} (t_a0 : K a0 = some (.inl 8)) (hf : f_X9_isAsked K m a0 x1 x2 = some q) : VV w RX9 cX9_isAsked 3 (some .boolean) rm_X9_isAsked false (QM w K (some (.int q)) m 0 0) K 0 [some (.ref a0), some (.int x1), some (.int x2)] [] 0 0 m := by
  unfold f_X9_isAsked at hf
  refine vv_aload_n 1 dX9_isAsked_0 rfl rfl ?_
  refine vv_iload_n 2 dX9_isAsked_1 rfl rfl ?_
  obtain ⟨q1, g_q1, hf⟩ := bind_s hf
  refine vv_callV 5 (st := []) (As := [.int x1]) (stk2 := [.int q1]) (cl2 := 0) (sl2 := 0) dX9_isAsked_2 rfl lk_RX9_87 w_1220 w_21 rfl t_a0 ⟨(Nat.le_of_ble_eq_true rfl), (Nat.le_of_ble_eq_true rfl)⟩ rfl rfl ⟨(Nat.le_of_ble_eq_true rfl), (Nat.le_of_ble_eq_true rfl)⟩ rfl (Nat.le_of_ble_eq_true rfl) rfl rfl rfl rfl (c_X9_isSeries t_a0 g_q1) ?_
  refine vv_if_eq 19 8 dX9_isAsked_5 rfl (by decide) (fun c2 => ?_) (fun c2 => ?_)
  · rw [if_pos c2] at hf
    exact VV.lle (v_X9_isAsked_19 t_a0 hf) (lle_n (lle_n (lle_n lle_nil)))
  · rw [if_neg c2] at hf
    refine vv_iload_n 9 dX9_isAsked_8 rfl rfl ?_
    obtain ⟨q3, g_q3, hf⟩ := bind_s hf
    refine vv_callS 12 (st := []) (As := [.int x2]) (stk2 := [.int q3]) (cl2 := 0) (sl2 := 0) dX9_isAsked_9 rfl lk_RX9_278 w_1223 ⟨(Nat.le_of_ble_eq_true rfl), (Nat.le_of_ble_eq_true rfl)⟩ rfl rfl ⟨(Nat.le_of_ble_eq_true rfl), (Nat.le_of_ble_eq_true rfl)⟩ rfl (Nat.le_of_ble_eq_true rfl) rfl rfl rfl rfl (c_X9_isStamp g_q3) ?_
    refine vv_if_eq 19 15 dX9_isAsked_12 rfl (by decide) (fun c4 => ?_) (fun c4 => ?_)
    · rw [if_pos c4] at hf
      exact VV.lle (v_X9_isAsked_19 t_a0 hf) (lle_n (lle_n (lle_n lle_nil)))
    · rw [if_neg c4] at hf
      refine vv_iconst 16 (v := 1) dX9_isAsked_15 rfl (by decide) ?_
      refine vv_goto 20 dX9_isAsked_16 (by decide) ?_
      obtain rfl := Option.some.inj hf
      exact vv_zret dX9_isAsked_20 rfl (Or.inr rfl)

theorem c_X9_isAsked {w : Wo} {K : Kn} {a0 : Nat} {x1 : Int32} {x2 : Int32} {q : Int32} {m : Mem} (t_a0 : K a0 = some (.inl 8)) (hf : F_X9_isAsked K m a0 x1 x2 = some q) : MM w K K yX9_isAsked cX9_isAsked 3 (some .boolean) rm_X9_isAsked [.ref a0, .int x1, .int x2] m (some (.int q)) m 0 0 :=
  mm_of (ini := false) (n := 0) (plainFor_of_name (by decide)) rfl (fun h => by first | rfl | cases h) (Nat.le_of_ble_eq_true rfl) rfl (v_X9_isAsked_0 t_a0 hf)

set_option maxHeartbeats 4000000 in
theorem v_X9_placeOf_31 {w : Wo} {K : Kn} {a0 : Nat} {x1 : Int32} {q : Int32} {m : Mem} (t_a0 : K a0 = some (.inl 8)) (hf : f_X9_placeOf_31 K m a0 x1 = some q) : VV w RX9 cX9_placeOf 3 (some .int) rm_X9_placeOf false (QM w K (some (.int q)) m 0 0) K 31 [none, none, none] [] 0 0 m := by
  unfold f_X9_placeOf_31 at hf
  refine vv_iconst 32 (v := (-1)) dX9_placeOf_31 rfl (by decide) ?_
  obtain rfl := Option.some.inj hf
  exact vv_iret dX9_placeOf_32 rfl

set_option maxHeartbeats 4000000 in
theorem v_X9_placeOf_0 {w : Wo} {K : Kn} {a0 : Nat} {x1 : Int32} {q : Int32} {m : Mem} (t_a0 : K a0 = some (.inl 8)) (hf : f_X9_placeOf K m a0 x1 = some q) : VV w RX9 cX9_placeOf 3 (some .int) rm_X9_placeOf false (QM w K (some (.int q)) m 0 0) K 0 [some (.ref a0), some (.int x1), none] [] 0 0 m := by
  unfold f_X9_placeOf at hf
  refine vv_aload_n 1 dX9_placeOf_0 rfl rfl ?_
  refine vv_iload_n 2 dX9_placeOf_1 rfl rfl ?_
  refine vv_i2l 3 dX9_placeOf_2 rfl ?_
  obtain ⟨q1, g_q1, hf⟩ := bind_s hf
  refine vv_callV 6 (st := []) (As := [.long ((x1).toInt64)]) (stk2 := [.int q1]) (cl2 := 0) (sl2 := 0) dX9_placeOf_3 rfl lk_RX9_251 w_1373 w_46 rfl t_a0 ⟨(Nat.le_of_ble_eq_true rfl), (Nat.le_of_ble_eq_true rfl)⟩ rfl rfl ⟨(Nat.le_of_ble_eq_true rfl), (Nat.le_of_ble_eq_true rfl)⟩ rfl (Nat.le_of_ble_eq_true rfl) rfl rfl rfl rfl (c_X9_firstNot t_a0 g_q1) ?_
  refine vv_istore_n 7 (L' := [some (.ref a0), some (.int x1), some (.int q1)]) dX9_placeOf_6 rfl (Nat.le_of_ble_eq_true rfl) rfl ?_
  refine vv_iload_n 8 dX9_placeOf_7 rfl rfl ?_
  refine vv_aload_n 9 dX9_placeOf_8 rfl rfl ?_
  refine gf_RX9_248 12 dX9_placeOf_9 rfl t_a0 ?_
  refine vv_icmp_ge 31 15 dX9_placeOf_12 rfl (by decide) (fun c2 => ?_) (fun c2 => ?_)
  · rw [if_pos c2] at hf
    exact VV.lle (v_X9_placeOf_31 t_a0 hf) (lle_n (lle_n (lle_n lle_nil)))
  · rw [if_neg c2] at hf
    refine vv_aload_n 16 dX9_placeOf_15 rfl rfl ?_
    obtain ⟨b3, g_b3, hf⟩ := bind_s hf
    have t_b3 := (ldA_spec g_b3).2
    refine gf_RX9_66 19 dX9_placeOf_16 rfl t_a0 (ldA_spec g_b3).1 ?_
    refine vv_iload_n 20 dX9_placeOf_19 rfl rfl ?_
    obtain ⟨r4, g_r4, hf⟩ := bind_s hf
    refine vv_lald 21 dX9_placeOf_20 rfl t_b3 g_r4 ?_
    refine vv_iload_n 22 dX9_placeOf_21 rfl rfl ?_
    refine vv_i2l 23 dX9_placeOf_22 rfl ?_
    refine vv_lcmp 24 dX9_placeOf_23 rfl ?_
    refine vv_if_ne 31 27 dX9_placeOf_24 rfl (by decide) (fun c5 => ?_) (fun c5 => ?_)
    · rw [if_pos c5] at hf
      refine vv_iload_n 28 dX9_placeOf_27 rfl rfl ?_
      refine vv_goto 32 dX9_placeOf_28 (by decide) ?_
      obtain rfl := Option.some.inj hf
      exact vv_iret dX9_placeOf_32 rfl
    · rw [if_neg c5] at hf
      exact VV.lle (v_X9_placeOf_31 t_a0 hf) (lle_n (lle_n (lle_n lle_nil)))

theorem c_X9_placeOf {w : Wo} {K : Kn} {a0 : Nat} {x1 : Int32} {q : Int32} {m : Mem} (t_a0 : K a0 = some (.inl 8)) (hf : F_X9_placeOf K m a0 x1 = some q) : MM w K K yX9_placeOf cX9_placeOf 3 (some .int) rm_X9_placeOf [.ref a0, .int x1] m (some (.int q)) m 0 0 :=
  mm_of (ini := false) (n := 1) (plainFor_of_name (by decide)) rfl (fun h => by first | rfl | cases h) (Nat.le_of_ble_eq_true rfl) rfl (v_X9_placeOf_0 t_a0 hf)

set_option maxHeartbeats 4000000 in
theorem v_X9_has_0 {w : Wo} {K : Kn} {a0 : Nat} {x1 : Int32} {x2 : Int32} {q : (Int32 × Mem)} (t_a0 : K a0 = some (.inl 8)) {m : Mem} (hf : f_X9_has K a0 x1 x2 m = some q) : VV w RX9 cX9_has 3 (some .int) rm_X9_has false (QM w K (some (.int q.1)) q.2 0 0) K 0 [some (.ref a0), some (.int x1), some (.int x2)] [] 0 0 m := by
  unfold f_X9_has at hf
  refine vv_aload_n 1 dX9_has_0 rfl rfl ?_
  refine vv_iload_n 2 dX9_has_1 rfl rfl ?_
  refine vv_iload_n 3 dX9_has_2 rfl rfl ?_
  obtain ⟨q1, g_q1, hf⟩ := bind_s hf
  refine vv_callV 6 (st := []) (As := [.int x1, .int x2]) (stk2 := [.int q1]) (cl2 := 0) (sl2 := 0) dX9_has_3 rfl lk_RX9_325 w_1460 w_54 rfl t_a0 ⟨(Nat.le_of_ble_eq_true rfl), (Nat.le_of_ble_eq_true rfl)⟩ rfl rfl ⟨(Nat.le_of_ble_eq_true rfl), (Nat.le_of_ble_eq_true rfl)⟩ rfl (Nat.le_of_ble_eq_true rfl) rfl rfl rfl rfl (c_X9_isAsked t_a0 g_q1) ?_
  refine vv_if_ne 12 9 dX9_has_6 rfl (by decide) (fun c2 => ?_) (fun c2 => ?_)
  · rw [if_pos c2] at hf
    refine vv_bipush 11 (v := (-2)) dX9_has_9 rfl (by decide) ?_
    obtain rfl := Option.some.inj hf
    exact vv_iret dX9_has_11 rfl
  · rw [if_neg c2] at hf
    refine vv_aload_n 13 dX9_has_12 rfl rfl ?_
    refine vv_iload_n 14 dX9_has_13 rfl rfl ?_
    obtain ⟨q3, g_q3, hf⟩ := bind_s hf
    refine vv_callV 17 (st := []) (As := [.int x1]) (stk2 := []) (cl2 := 0) (sl2 := 0) dX9_has_14 rfl lk_RX9_297 w_1369 w_45 rfl t_a0 ⟨(Nat.le_of_ble_eq_true rfl), (Nat.le_of_ble_eq_true rfl)⟩ rfl rfl ⟨(Nat.le_of_ble_eq_true rfl), (Nat.le_of_ble_eq_true rfl)⟩ rfl (Nat.le_of_ble_eq_true rfl) rfl rfl rfl rfl (c_X9_gathers t_a0 g_q3) ?_
    refine vv_aload_n 18 dX9_has_17 rfl rfl ?_
    refine vv_iload_n 19 dX9_has_18 rfl rfl ?_
    obtain ⟨q4, g_q4, hf⟩ := bind_s hf
    refine vv_callV 22 (st := []) (As := [.int x2]) (stk2 := [.int q4]) (cl2 := 0) (sl2 := 0) dX9_has_19 rfl lk_RX9_328 w_1464 w_55 rfl t_a0 ⟨(Nat.le_of_ble_eq_true rfl), (Nat.le_of_ble_eq_true rfl)⟩ rfl rfl ⟨(Nat.le_of_ble_eq_true rfl), (Nat.le_of_ble_eq_true rfl)⟩ rfl (Nat.le_of_ble_eq_true rfl) rfl rfl rfl rfl (c_X9_placeOf t_a0 g_q4) ?_
    refine vv_iconst 23 (v := (-1)) dX9_has_22 rfl (by decide) ?_
    refine vv_icmp_ne 30 26 dX9_has_23 rfl (by decide) (fun c5 => ?_) (fun c5 => ?_)
    · rw [if_pos c5] at hf
      refine vv_iconst 27 (v := 0) dX9_has_26 rfl (by decide) ?_
      refine vv_goto 31 dX9_has_27 (by decide) ?_
      obtain rfl := Option.some.inj hf
      exact vv_iret dX9_has_31 rfl
    · rw [if_neg c5] at hf
      refine vv_iconst 31 (v := 1) dX9_has_30 rfl (by decide) ?_
      obtain rfl := Option.some.inj hf
      exact vv_iret dX9_has_31 rfl

theorem c_X9_has {w : Wo} {K : Kn} {a0 : Nat} {x1 : Int32} {x2 : Int32} {q : (Int32 × Mem)} {m : Mem} (t_a0 : K a0 = some (.inl 8)) (hf : F_X9_has K m a0 x1 x2 = some q) : MM w K K yX9_has cX9_has 3 (some .int) rm_X9_has [.ref a0, .int x1, .int x2] m (some (.int q.1)) q.2 0 0 :=
  mm_of (ini := false) (n := 0) (plainFor_of_name (by decide)) rfl (fun h => by first | rfl | cases h) (Nat.le_of_ble_eq_true rfl) rfl (v_X9_has_0 t_a0 hf)

set_option maxHeartbeats 4000000 in
theorem v_X9_at_0 {w : Wo} {K : Kn} {a0 : Nat} {x1 : Int32} {x2 : Int32} {q : (Int64 × Mem)} (t_a0 : K a0 = some (.inl 8)) {m : Mem} (hf : f_X9_at K a0 x1 x2 m = some q) : VV w RX9 cX9_at 4 (some .long) rm_X9_at false (QM w K (some (.long q.1)) q.2 0 0) K 0 [some (.ref a0), some (.int x1), some (.int x2), none] [] 0 0 m := by
  unfold f_X9_at at hf
  refine vv_aload_n 1 dX9_at_0 rfl rfl ?_
  refine vv_iload_n 2 dX9_at_1 rfl rfl ?_
  refine vv_iload_n 3 dX9_at_2 rfl rfl ?_
  obtain ⟨q1, g_q1, hf⟩ := bind_s hf
  refine vv_callV 6 (st := []) (As := [.int x1, .int x2]) (stk2 := [.int q1]) (cl2 := 0) (sl2 := 0) dX9_at_3 rfl lk_RX9_325 w_1460 w_54 rfl t_a0 ⟨(Nat.le_of_ble_eq_true rfl), (Nat.le_of_ble_eq_true rfl)⟩ rfl rfl ⟨(Nat.le_of_ble_eq_true rfl), (Nat.le_of_ble_eq_true rfl)⟩ rfl (Nat.le_of_ble_eq_true rfl) rfl rfl rfl rfl (c_X9_isAsked t_a0 g_q1) ?_
  refine vv_if_ne 11 9 dX9_at_6 rfl (by decide) (fun c2 => ?_) (fun c2 => ?_)
  · rw [if_pos c2] at hf
    refine vv_lconst 10 (v := 0) dX9_at_9 rfl (by decide) ?_
    obtain rfl := Option.some.inj hf
    exact vv_lret dX9_at_10 rfl
  · rw [if_neg c2] at hf
    refine vv_aload_n 12 dX9_at_11 rfl rfl ?_
    refine vv_iload_n 13 dX9_at_12 rfl rfl ?_
    obtain ⟨q3, g_q3, hf⟩ := bind_s hf
    refine vv_callV 16 (st := []) (As := [.int x1]) (stk2 := []) (cl2 := 0) (sl2 := 0) dX9_at_13 rfl lk_RX9_297 w_1369 w_45 rfl t_a0 ⟨(Nat.le_of_ble_eq_true rfl), (Nat.le_of_ble_eq_true rfl)⟩ rfl rfl ⟨(Nat.le_of_ble_eq_true rfl), (Nat.le_of_ble_eq_true rfl)⟩ rfl (Nat.le_of_ble_eq_true rfl) rfl rfl rfl rfl (c_X9_gathers t_a0 g_q3) ?_
    refine vv_aload_n 17 dX9_at_16 rfl rfl ?_
    refine vv_iload_n 18 dX9_at_17 rfl rfl ?_
    obtain ⟨q4, g_q4, hf⟩ := bind_s hf
    refine vv_callV 21 (st := []) (As := [.int x2]) (stk2 := [.int q4]) (cl2 := 0) (sl2 := 0) dX9_at_18 rfl lk_RX9_328 w_1464 w_55 rfl t_a0 ⟨(Nat.le_of_ble_eq_true rfl), (Nat.le_of_ble_eq_true rfl)⟩ rfl rfl ⟨(Nat.le_of_ble_eq_true rfl), (Nat.le_of_ble_eq_true rfl)⟩ rfl (Nat.le_of_ble_eq_true rfl) rfl rfl rfl rfl (c_X9_placeOf t_a0 g_q4) ?_
    refine vv_istore_n 22 (L' := [some (.ref a0), some (.int x1), some (.int x2), some (.int q4)]) dX9_at_21 rfl (Nat.le_of_ble_eq_true rfl) rfl ?_
    refine vv_iload_n 23 dX9_at_22 rfl rfl ?_
    refine vv_iconst 24 (v := (-1)) dX9_at_23 rfl (by decide) ?_
    refine vv_icmp_ne 31 27 dX9_at_24 rfl (by decide) (fun c5 => ?_) (fun c5 => ?_)
    · rw [if_pos c5] at hf
      refine vv_lconst 28 (v := 0) dX9_at_27 rfl (by decide) ?_
      refine vv_goto 37 dX9_at_28 (by decide) ?_
      obtain rfl := Option.some.inj hf
      exact vv_lret dX9_at_37 rfl
    · rw [if_neg c5] at hf
      refine vv_aload_n 32 dX9_at_31 rfl rfl ?_
      obtain ⟨b6, g_b6, hf⟩ := bind_s hf
      have t_b6 := (ldA_spec g_b6).2
      refine gf_RX9_69 35 dX9_at_32 rfl t_a0 (ldA_spec g_b6).1 ?_
      refine vv_iload_n 36 dX9_at_35 rfl rfl ?_
      obtain ⟨r7, g_r7, hf⟩ := bind_s hf
      refine vv_lald 37 dX9_at_36 rfl t_b6 g_r7 ?_
      obtain rfl := Option.some.inj hf
      exact vv_lret dX9_at_37 rfl

theorem c_X9_at {w : Wo} {K : Kn} {a0 : Nat} {x1 : Int32} {x2 : Int32} {q : (Int64 × Mem)} {m : Mem} (t_a0 : K a0 = some (.inl 8)) (hf : F_X9_at K m a0 x1 x2 = some q) : MM w K K yX9_at cX9_at 4 (some .long) rm_X9_at [.ref a0, .int x1, .int x2] m (some (.long q.1)) q.2 0 0 :=
  mm_of (ini := false) (n := 1) (plainFor_of_name (by decide)) rfl (fun h => by first | rfl | cases h) (Nat.le_of_ble_eq_true rfl) rfl (v_X9_at_0 t_a0 hf)

set_option maxHeartbeats 4000000 in
theorem v_X9_nearest_88 {w : Wo} {K : Kn} {a0 : Nat} {x1 : Int32} {x2 : Int32} {q : (Int32 × Mem)} (t_a0 : K a0 = some (.inl 8)) (k24 : Mem → Int64 → Int32 → Option (Int32 × Mem)) (hk24 : ∀ (m : Mem) (x3 : Int64) (x5 : Int32), k24 m x3 x5 = some q → VV w RX9 cX9_nearest 7 (some .int) rm_X9_nearest false (QM w K (some (.int q.1)) q.2 0 0) K 24 [some (.ref a0), none, some (.int x2), some (.long x3), none, some (.int x5), none] [] 0 0 m) {m : Mem} {x5 : Int32} {s0 : Int64} (hf : f_X9_nearest_88 K a0 x1 x2 k24 m x5 s0 = some q) : VV w RX9 cX9_nearest 7 (some .int) rm_X9_nearest false (QM w K (some (.int q.1)) q.2 0 0) K 88 [some (.ref a0), none, some (.int x2), none, none, some (.int x5), none] [.long s0] 0 0 m := by
  unfold f_X9_nearest_88 at hf
  refine vv_lstore_n 89 (L' := [some (.ref a0), none, some (.int x2), some (.long s0), none, some (.int x5), none]) dX9_nearest_88 rfl (Nat.le_of_ble_eq_true rfl) rfl ?_
  obtain ⟨z1, e_z1, hf⟩ := bd_s hf
  refine vv_iincE (q := 92) (v := z1) (c := 1) (L' := [some (.ref a0), none, some (.int x2), some (.long s0), none, some (.int z1), none]) e_z1 dX9_nearest_89 rfl rfl (by decide) (Nat.le_of_ble_eq_true rfl) rfl ?_
  refine vv_goto 24 dX9_nearest_92 (by decide) ?_
  exact hk24 _ _ _ hf

set_option maxHeartbeats 4000000 in
theorem v_X9_nearest_70 {w : Wo} {K : Kn} {a0 : Nat} {x1 : Int32} {x2 : Int32} {q : (Int32 × Mem)} (t_a0 : K a0 = some (.inl 8)) (k24 : Mem → Int64 → Int32 → Option (Int32 × Mem)) (hk24 : ∀ (m : Mem) (x3 : Int64) (x5 : Int32), k24 m x3 x5 = some q → VV w RX9 cX9_nearest 7 (some .int) rm_X9_nearest false (QM w K (some (.int q.1)) q.2 0 0) K 24 [some (.ref a0), none, some (.int x2), some (.long x3), none, some (.int x5), none] [] 0 0 m) {m : Mem} {x3 : Int64} {x5 : Int32} {s0 : Int32} (hf : f_X9_nearest_70 K a0 x1 x2 k24 m x3 x5 s0 = some q) : VV w RX9 cX9_nearest 7 (some .int) rm_X9_nearest false (QM w K (some (.int q.1)) q.2 0 0) K 70 [some (.ref a0), none, some (.int x2), some (.long x3), none, some (.int x5), none] [.int s0] 0 0 m := by
  unfold f_X9_nearest_70 at hf
  refine vv_istore 72 (L' := [some (.ref a0), none, some (.int x2), some (.long x3), none, some (.int x5), some (.int s0)]) dX9_nearest_70 rfl (Nat.le_of_ble_eq_true rfl) rfl ?_
  refine vv_iload 74 dX9_nearest_72 rfl rfl ?_
  refine vv_if_eq 87 77 dX9_nearest_74 rfl (by decide) (fun c1 => ?_) (fun c1 => ?_)
  · rw [if_pos c1] at hf
    refine vv_lload_n 88 dX9_nearest_87 rfl rfl ?_
    exact VV.lle (v_X9_nearest_88 t_a0 k24 hk24 hf) (lle_s (lle_s (lle_s (lle_n (lle_s (lle_s (lle_n lle_nil)))))))
  · rw [if_neg c1] at hf
    refine vv_aload_n 78 dX9_nearest_77 rfl rfl ?_
    obtain ⟨b2, g_b2, hf⟩ := bind_s hf
    have t_b2 := (ldA_spec g_b2).2
    refine gf_RX9_66 81 dX9_nearest_78 rfl t_a0 (ldA_spec g_b2).1 ?_
    refine vv_iload 83 dX9_nearest_81 rfl rfl ?_
    obtain ⟨r3, g_r3, hf⟩ := bind_s hf
    refine vv_lald 84 dX9_nearest_83 rfl t_b2 g_r3 ?_
    refine vv_goto 88 dX9_nearest_84 (by decide) ?_
    exact VV.lle (v_X9_nearest_88 t_a0 k24 hk24 hf) (lle_s (lle_s (lle_s (lle_n (lle_s (lle_s (lle_n lle_nil)))))))

set_option maxHeartbeats 4000000 in
theorem v_X9_nearest_65 {w : Wo} {K : Kn} {a0 : Nat} {x1 : Int32} {x2 : Int32} {q : (Int32 × Mem)} (t_a0 : K a0 = some (.inl 8)) (k24 : Mem → Int64 → Int32 → Option (Int32 × Mem)) (hk24 : ∀ (m : Mem) (x3 : Int64) (x5 : Int32), k24 m x3 x5 = some q → VV w RX9 cX9_nearest 7 (some .int) rm_X9_nearest false (QM w K (some (.int q.1)) q.2 0 0) K 24 [some (.ref a0), none, some (.int x2), some (.long x3), none, some (.int x5), none] [] 0 0 m) {m : Mem} {x3 : Int64} {x5 : Int32} (hf : f_X9_nearest_65 K a0 x1 x2 k24 m x3 x5 = some q) : VV w RX9 cX9_nearest 7 (some .int) rm_X9_nearest false (QM w K (some (.int q.1)) q.2 0 0) K 65 [some (.ref a0), none, some (.int x2), some (.long x3), none, some (.int x5), none] [] 0 0 m := by
  unfold f_X9_nearest_65 at hf
  refine vv_iconst 66 (v := 1) dX9_nearest_65 rfl (by decide) ?_
  refine vv_goto 70 dX9_nearest_66 (by decide) ?_
  exact v_X9_nearest_70 t_a0 k24 hk24 hf

set_option maxHeartbeats 4000000 in
theorem v_X9_nearest_24B {w : Wo} {K : Kn} {a0 : Nat} {x1 : Int32} {x2 : Int32} {q : (Int32 × Mem)} (t_a0 : K a0 = some (.inl 8)) (k24 : Mem → Int64 → Int32 → Option (Int32 × Mem)) (hk24 : ∀ (m : Mem) (x3 : Int64) (x5 : Int32), k24 m x3 x5 = some q → VV w RX9 cX9_nearest 7 (some .int) rm_X9_nearest false (QM w K (some (.int q.1)) q.2 0 0) K 24 [some (.ref a0), none, some (.int x2), some (.long x3), none, some (.int x5), none] [] 0 0 m) {m : Mem} {x3 : Int64} {x5 : Int32} (hf : f_X9_nearest_24B K a0 x1 x2 k24 m x3 x5 = some q) : VV w RX9 cX9_nearest 7 (some .int) rm_X9_nearest false (QM w K (some (.int q.1)) q.2 0 0) K 24 [some (.ref a0), none, some (.int x2), some (.long x3), none, some (.int x5), none] [] 0 0 m := by
  unfold f_X9_nearest_24B at hf
  refine vv_iload 26 dX9_nearest_24 rfl rfl ?_
  refine vv_aload_n 27 dX9_nearest_26 rfl rfl ?_
  refine gf_RX9_248 30 dX9_nearest_27 rfl t_a0 ?_
  refine vv_icmp_ge 95 33 dX9_nearest_30 rfl (by decide) (fun c1 => ?_) (fun c1 => ?_)
  · rw [if_pos c1] at hf
    refine vv_lload_n 96 dX9_nearest_95 rfl rfl ?_
    refine vv_l2i 97 dX9_nearest_96 rfl ?_
    obtain rfl := Option.some.inj hf
    exact vv_iret dX9_nearest_97 rfl
  · rw [if_neg c1] at hf
    refine vv_lload_n 34 dX9_nearest_33 rfl rfl ?_
    refine vv_ldc2 37 (v := (-1)) dX9_nearest_34 rfl w_1482 ?_
    refine vv_lcmp 38 dX9_nearest_37 rfl ?_
    refine vv_if_eq 65 41 dX9_nearest_38 rfl (by decide) (fun c2 => ?_) (fun c2 => ?_)
    · rw [if_pos c2] at hf
      exact v_X9_nearest_65 t_a0 k24 hk24 hf
    · rw [if_neg c2] at hf
      refine vv_aload_n 42 dX9_nearest_41 rfl rfl ?_
      obtain ⟨b3, g_b3, hf⟩ := bind_s hf
      have t_b3 := (ldA_spec g_b3).2
      refine gf_RX9_66 45 dX9_nearest_42 rfl t_a0 (ldA_spec g_b3).1 ?_
      refine vv_iload 47 dX9_nearest_45 rfl rfl ?_
      obtain ⟨r4, g_r4, hf⟩ := bind_s hf
      refine vv_lald 48 dX9_nearest_47 rfl t_b3 g_r4 ?_
      refine vv_iload_n 49 dX9_nearest_48 rfl rfl ?_
      refine vv_i2l 50 dX9_nearest_49 rfl ?_
      refine vv_lsub 51 dX9_nearest_50 rfl ?_
      obtain ⟨q5, g_q5, hf⟩ := bind_s hf
      refine vv_callS 54 (st := []) (As := [.long (r4 - ((x2).toInt64))]) (stk2 := [.long q5]) (cl2 := 0) (sl2 := 0) dX9_nearest_51 rfl lk_RX9_333 w_1484 ⟨(Nat.le_of_ble_eq_true rfl), (Nat.le_of_ble_eq_true rfl)⟩ rfl rfl ⟨(Nat.le_of_ble_eq_true rfl), (Nat.le_of_ble_eq_true rfl)⟩ rfl (Nat.le_of_ble_eq_true rfl) rfl rfl rfl rfl (c_J9_abs_067f4 g_q5) ?_
      refine vv_lload_n 55 dX9_nearest_54 rfl rfl ?_
      refine vv_iload_n 56 dX9_nearest_55 rfl rfl ?_
      refine vv_i2l 57 dX9_nearest_56 rfl ?_
      refine vv_lsub 58 dX9_nearest_57 rfl ?_
      obtain ⟨q6, g_q6, hf⟩ := bind_s hf
      refine vv_callS 61 (st := [.long q5]) (As := [.long (x3 - ((x2).toInt64))]) (stk2 := [.long q6, .long q5]) (cl2 := 0) (sl2 := 0) dX9_nearest_58 rfl lk_RX9_333 w_1484 ⟨(Nat.le_of_ble_eq_true rfl), (Nat.le_of_ble_eq_true rfl)⟩ rfl rfl ⟨(Nat.le_of_ble_eq_true rfl), (Nat.le_of_ble_eq_true rfl)⟩ rfl (Nat.le_of_ble_eq_true rfl) rfl rfl rfl rfl (c_J9_abs_067f4 g_q6) ?_
      refine vv_lcmp 62 dX9_nearest_61 rfl ?_
      refine vv_if_ge 69 65 dX9_nearest_62 rfl (by decide) (fun c7 => ?_) (fun c7 => ?_)
      · rw [if_pos c7] at hf
        refine vv_iconst 70 (v := 0) dX9_nearest_69 rfl (by decide) ?_
        exact v_X9_nearest_70 t_a0 k24 hk24 hf
      · rw [if_neg c7] at hf
        exact v_X9_nearest_65 t_a0 k24 hk24 hf

theorem v_X9_nearest_24 {w : Wo} {K : Kn} {a0 : Nat} {x1 : Int32} {x2 : Int32} {q : (Int32 × Mem)} (t_a0 : K a0 = some (.inl 8)) : ∀ (n : Nat) (m : Mem) (x3 : Int64) (x5 : Int32), f_X9_nearest_24 K a0 x1 x2 n m x3 x5 = some q → VV w RX9 cX9_nearest 7 (some .int) rm_X9_nearest false (QM w K (some (.int q.1)) q.2 0 0) K 24 [some (.ref a0), none, some (.int x2), some (.long x3), none, some (.int x5), none] [] 0 0 m := by
  intro n
  induction n with
  | zero => intro m x3 x5 hf; cases hf
  | succ n ih => intro m x3 x5 hf; exact v_X9_nearest_24B (a0 := a0) (x1 := x1) (x2 := x2) t_a0 (f_X9_nearest_24 K a0 x1 x2 n) ih hf

set_option maxHeartbeats 4000000 in
theorem v_X9_nearest_0 {w : Wo} {K : Kn} {a0 : Nat} {x1 : Int32} {x2 : Int32} {q : (Int32 × Mem)} (t_a0 : K a0 = some (.inl 8)) {m : Mem} (hf : f_X9_nearest K a0 x1 x2 m = some q) : VV w RX9 cX9_nearest 7 (some .int) rm_X9_nearest false (QM w K (some (.int q.1)) q.2 0 0) K 0 [some (.ref a0), some (.int x1), some (.int x2), none, none, none, none] [] 0 0 m := by
  unfold f_X9_nearest at hf
  refine vv_aload_n 1 dX9_nearest_0 rfl rfl ?_
  refine vv_iload_n 2 dX9_nearest_1 rfl rfl ?_
  refine vv_iload_n 3 dX9_nearest_2 rfl rfl ?_
  obtain ⟨q1, g_q1, hf⟩ := bind_s hf
  refine vv_callV 6 (st := []) (As := [.int x1, .int x2]) (stk2 := [.int q1]) (cl2 := 0) (sl2 := 0) dX9_nearest_3 rfl lk_RX9_325 w_1460 w_54 rfl t_a0 ⟨(Nat.le_of_ble_eq_true rfl), (Nat.le_of_ble_eq_true rfl)⟩ rfl rfl ⟨(Nat.le_of_ble_eq_true rfl), (Nat.le_of_ble_eq_true rfl)⟩ rfl (Nat.le_of_ble_eq_true rfl) rfl rfl rfl rfl (c_X9_isAsked t_a0 g_q1) ?_
  refine vv_if_ne 12 9 dX9_nearest_6 rfl (by decide) (fun c2 => ?_) (fun c2 => ?_)
  · rw [if_pos c2] at hf
    refine vv_bipush 11 (v := (-2)) dX9_nearest_9 rfl (by decide) ?_
    obtain rfl := Option.some.inj hf
    exact vv_iret dX9_nearest_11 rfl
  · rw [if_neg c2] at hf
    refine vv_aload_n 13 dX9_nearest_12 rfl rfl ?_
    refine vv_iload_n 14 dX9_nearest_13 rfl rfl ?_
    obtain ⟨q3, g_q3, hf⟩ := bind_s hf
    refine vv_callV 17 (st := []) (As := [.int x1]) (stk2 := []) (cl2 := 0) (sl2 := 0) dX9_nearest_14 rfl lk_RX9_297 w_1369 w_45 rfl t_a0 ⟨(Nat.le_of_ble_eq_true rfl), (Nat.le_of_ble_eq_true rfl)⟩ rfl rfl ⟨(Nat.le_of_ble_eq_true rfl), (Nat.le_of_ble_eq_true rfl)⟩ rfl (Nat.le_of_ble_eq_true rfl) rfl rfl rfl rfl (c_X9_gathers t_a0 g_q3) ?_
    refine vv_ldc2 20 (v := (-1)) dX9_nearest_17 rfl w_1482 ?_
    refine vv_lstore_n 21 (L' := [some (.ref a0), some (.int x1), some (.int x2), some (.long (-1 : Int64)), none, none, none]) dX9_nearest_20 rfl (Nat.le_of_ble_eq_true rfl) rfl ?_
    refine vv_iconst 22 (v := 0) dX9_nearest_21 rfl (by decide) ?_
    refine vv_istore 24 (L' := [some (.ref a0), some (.int x1), some (.int x2), some (.long (-1 : Int64)), none, some (.int (0 : Int32)), none]) dX9_nearest_22 rfl (Nat.le_of_ble_eq_true rfl) rfl ?_
    exact VV.lle (v_X9_nearest_24 t_a0 FU _ _ _ hf) (lle_s (lle_n (lle_s (lle_s (lle_s (lle_s (lle_s lle_nil)))))))

theorem c_X9_nearest {w : Wo} {K : Kn} {a0 : Nat} {x1 : Int32} {x2 : Int32} {q : (Int32 × Mem)} {m : Mem} (t_a0 : K a0 = some (.inl 8)) (hf : F_X9_nearest K m a0 x1 x2 = some q) : MM w K K yX9_nearest cX9_nearest 7 (some .int) rm_X9_nearest [.ref a0, .int x1, .int x2] m (some (.int q.1)) q.2 0 0 :=
  mm_of (ini := false) (n := 4) (plainFor_of_name (by decide)) rfl (fun h => by first | rfl | cases h) (Nat.le_of_ble_eq_true rfl) rfl (v_X9_nearest_0 t_a0 hf)

set_option maxHeartbeats 4000000 in
theorem v_X9_point_0 {w : Wo} {K : Kn} {a0 : Nat} {x1 : Int32} {x2 : Int32} {x3 : Int32} {q : (Int64 × Mem)} (t_a0 : K a0 = some (.inl 8)) {m : Mem} (hf : f_X9_point K a0 x1 x2 x3 m = some q) : VV w RX9 cX9_point 4 (some .long) rm_X9_point false (QM w K (some (.long q.1)) q.2 0 0) K 0 [some (.ref a0), some (.int x1), some (.int x2), some (.int x3)] [] 0 0 m := by
  unfold f_X9_point at hf
  refine vv_aload_n 1 dX9_point_0 rfl rfl ?_
  refine vv_iload_n 2 dX9_point_1 rfl rfl ?_
  obtain ⟨q1, g_q1, hf⟩ := bind_s hf
  refine vv_callV 5 (st := []) (As := [.int x1]) (stk2 := [.int q1]) (cl2 := 0) (sl2 := 0) dX9_point_2 rfl lk_RX9_87 w_1220 w_21 rfl t_a0 ⟨(Nat.le_of_ble_eq_true rfl), (Nat.le_of_ble_eq_true rfl)⟩ rfl rfl ⟨(Nat.le_of_ble_eq_true rfl), (Nat.le_of_ble_eq_true rfl)⟩ rfl (Nat.le_of_ble_eq_true rfl) rfl rfl rfl rfl (c_X9_isSeries t_a0 g_q1) ?_
  refine vv_if_eq 22 8 dX9_point_5 rfl (by decide) (fun c2 => ?_) (fun c2 => ?_)
  · rw [if_pos c2] at hf
    refine vv_ldc2 25 (v := (-1)) dX9_point_22 rfl w_1482 ?_
    obtain rfl := Option.some.inj hf
    exact vv_lret dX9_point_25 rfl
  · rw [if_neg c2] at hf
    refine vv_iload_n 9 dX9_point_8 rfl rfl ?_
    refine vv_if_lt 22 12 dX9_point_9 rfl (by decide) (fun c3 => ?_) (fun c3 => ?_)
    · rw [if_pos c3] at hf
      refine vv_ldc2 25 (v := (-1)) dX9_point_22 rfl w_1482 ?_
      obtain rfl := Option.some.inj hf
      exact vv_lret dX9_point_25 rfl
    · rw [if_neg c3] at hf
      refine vv_iload_n 13 dX9_point_12 rfl rfl ?_
      refine vv_i2l 14 dX9_point_13 rfl ?_
      refine vv_lconst 15 (v := 0) dX9_point_14 rfl (by decide) ?_
      refine vv_lconst 16 (v := 1) dX9_point_15 rfl (by decide) ?_
      obtain ⟨q4, g_q4, hf⟩ := bind_s hf
      refine vv_callS 19 (st := []) (As := [.long ((x3).toInt64), .long (0 : Int64), .long (1 : Int64)]) (stk2 := [.int q4]) (cl2 := 0) (sl2 := 0) dX9_point_16 rfl lk_RX9_83 w_1206 ⟨(Nat.le_of_ble_eq_true rfl), (Nat.le_of_ble_eq_true rfl)⟩ rfl rfl ⟨(Nat.le_of_ble_eq_true rfl), (Nat.le_of_ble_eq_true rfl)⟩ rfl (Nat.le_of_ble_eq_true rfl) rfl rfl rfl rfl (c_X9_in g_q4) ?_
      refine vv_if_ne 26 22 dX9_point_19 rfl (by decide) (fun c5 => ?_) (fun c5 => ?_)
      · rw [if_pos c5] at hf
        refine vv_ldc2 25 (v := (-1)) dX9_point_22 rfl w_1482 ?_
        obtain rfl := Option.some.inj hf
        exact vv_lret dX9_point_25 rfl
      · rw [if_neg c5] at hf
        refine vv_aload_n 27 dX9_point_26 rfl rfl ?_
        refine vv_iload_n 28 dX9_point_27 rfl rfl ?_
        obtain ⟨q6, g_q6, hf⟩ := bind_s hf
        refine vv_callV 31 (st := []) (As := [.int x1]) (stk2 := []) (cl2 := 0) (sl2 := 0) dX9_point_28 rfl lk_RX9_297 w_1369 w_45 rfl t_a0 ⟨(Nat.le_of_ble_eq_true rfl), (Nat.le_of_ble_eq_true rfl)⟩ rfl rfl ⟨(Nat.le_of_ble_eq_true rfl), (Nat.le_of_ble_eq_true rfl)⟩ rfl (Nat.le_of_ble_eq_true rfl) rfl rfl rfl rfl (c_X9_gathers t_a0 g_q6) ?_
        refine vv_iload_n 32 dX9_point_31 rfl rfl ?_
        refine vv_aload_n 33 dX9_point_32 rfl rfl ?_
        refine gf_RX9_248 36 dX9_point_33 rfl t_a0 ?_
        refine vv_icmp_lt 45 39 dX9_point_36 rfl (by decide) (fun c7 => ?_) (fun c7 => ?_)
        · rw [if_pos c7] at hf
          refine vv_iload_n 46 dX9_point_45 rfl rfl ?_
          refine vv_if_ne 58 49 dX9_point_46 rfl (by decide) (fun c8 => ?_) (fun c8 => ?_)
          · rw [if_pos c8] at hf
            refine vv_aload_n 50 dX9_point_49 rfl rfl ?_
            obtain ⟨b9, g_b9, hf⟩ := bind_s hf
            have t_b9 := (ldA_spec g_b9).2
            refine gf_RX9_66 53 dX9_point_50 rfl t_a0 (ldA_spec g_b9).1 ?_
            refine vv_iload_n 54 dX9_point_53 rfl rfl ?_
            obtain ⟨r10, g_r10, hf⟩ := bind_s hf
            refine vv_lald 55 dX9_point_54 rfl t_b9 g_r10 ?_
            refine vv_goto 64 dX9_point_55 (by decide) ?_
            obtain rfl := Option.some.inj hf
            exact vv_lret dX9_point_64 rfl
          · rw [if_neg c8] at hf
            refine vv_aload_n 59 dX9_point_58 rfl rfl ?_
            obtain ⟨b11, g_b11, hf⟩ := bind_s hf
            have t_b11 := (ldA_spec g_b11).2
            refine gf_RX9_69 62 dX9_point_59 rfl t_a0 (ldA_spec g_b11).1 ?_
            refine vv_iload_n 63 dX9_point_62 rfl rfl ?_
            obtain ⟨r12, g_r12, hf⟩ := bind_s hf
            refine vv_lald 64 dX9_point_63 rfl t_b11 g_r12 ?_
            obtain rfl := Option.some.inj hf
            exact vv_lret dX9_point_64 rfl
        · rw [if_neg c7] at hf
          refine vv_ldc2 42 (v := (-1)) dX9_point_39 rfl w_1482 ?_
          refine vv_goto 64 dX9_point_42 (by decide) ?_
          obtain rfl := Option.some.inj hf
          exact vv_lret dX9_point_64 rfl

theorem c_X9_point {w : Wo} {K : Kn} {a0 : Nat} {x1 : Int32} {x2 : Int32} {x3 : Int32} {q : (Int64 × Mem)} {m : Mem} (t_a0 : K a0 = some (.inl 8)) (hf : F_X9_point K m a0 x1 x2 x3 = some q) : MM w K K yX9_point cX9_point 4 (some .long) rm_X9_point [.ref a0, .int x1, .int x2, .int x3] m (some (.long q.1)) q.2 0 0 :=
  mm_of (ini := false) (n := 0) (plainFor_of_name (by decide)) rfl (fun h => by first | rfl | cases h) (Nat.le_of_ble_eq_true rfl) rfl (v_X9_point_0 t_a0 hf)

set_option maxHeartbeats 4000000 in
theorem v_X9_isSpan_17 {w : Wo} {K : Kn} {a0 : Nat} {x1 : Int32} {x2 : Int32} {x3 : Int32} {q : Int32} {m : Mem} (t_a0 : K a0 = some (.inl 8)) (hf : f_X9_isSpan_17 K m a0 x1 x2 x3 = some q) : VV w RX9 cX9_isSpan 4 (some .boolean) rm_X9_isSpan false (QM w K (some (.int q)) m 0 0) K 17 [none, none, none, none] [] 0 0 m := by
  unfold f_X9_isSpan_17 at hf
  refine vv_iconst 18 (v := 0) dX9_isSpan_17 rfl (by decide) ?_
  obtain rfl := Option.some.inj hf
  exact vv_zret dX9_isSpan_18 rfl (Or.inl rfl)

set_option maxHeartbeats 4000000 in
theorem v_X9_isSpan_0 {w : Wo} {K : Kn} {a0 : Nat} {x1 : Int32} {x2 : Int32} {x3 : Int32} {q : Int32} {m : Mem} (t_a0 : K a0 = some (.inl 8)) (hf : f_X9_isSpan K m a0 x1 x2 x3 = some q) : VV w RX9 cX9_isSpan 4 (some .boolean) rm_X9_isSpan false (QM w K (some (.int q)) m 0 0) K 0 [some (.ref a0), some (.int x1), some (.int x2), some (.int x3)] [] 0 0 m := by
  unfold f_X9_isSpan at hf
  refine vv_aload_n 1 dX9_isSpan_0 rfl rfl ?_
  refine vv_iload_n 2 dX9_isSpan_1 rfl rfl ?_
  obtain ⟨q1, g_q1, hf⟩ := bind_s hf
  refine vv_callV 5 (st := []) (As := [.int x1]) (stk2 := [.int q1]) (cl2 := 0) (sl2 := 0) dX9_isSpan_2 rfl lk_RX9_87 w_1220 w_21 rfl t_a0 ⟨(Nat.le_of_ble_eq_true rfl), (Nat.le_of_ble_eq_true rfl)⟩ rfl rfl ⟨(Nat.le_of_ble_eq_true rfl), (Nat.le_of_ble_eq_true rfl)⟩ rfl (Nat.le_of_ble_eq_true rfl) rfl rfl rfl rfl (c_X9_isSeries t_a0 g_q1) ?_
  refine vv_if_eq 17 8 dX9_isSpan_5 rfl (by decide) (fun c2 => ?_) (fun c2 => ?_)
  · rw [if_pos c2] at hf
    exact VV.lle (v_X9_isSpan_17 t_a0 hf) (lle_n (lle_n (lle_n (lle_n lle_nil))))
  · rw [if_neg c2] at hf
    refine vv_iload_n 9 dX9_isSpan_8 rfl rfl ?_
    refine vv_iload_n 10 dX9_isSpan_9 rfl rfl ?_
    refine vv_icmp_gt 17 13 dX9_isSpan_10 rfl (by decide) (fun c3 => ?_) (fun c3 => ?_)
    · rw [if_pos c3] at hf
      exact VV.lle (v_X9_isSpan_17 t_a0 hf) (lle_n (lle_n (lle_n (lle_n lle_nil))))
    · rw [if_neg c3] at hf
      refine vv_iconst 14 (v := 1) dX9_isSpan_13 rfl (by decide) ?_
      refine vv_goto 18 dX9_isSpan_14 (by decide) ?_
      obtain rfl := Option.some.inj hf
      exact vv_zret dX9_isSpan_18 rfl (Or.inr rfl)

theorem c_X9_isSpan {w : Wo} {K : Kn} {a0 : Nat} {x1 : Int32} {x2 : Int32} {x3 : Int32} {q : Int32} {m : Mem} (t_a0 : K a0 = some (.inl 8)) (hf : F_X9_isSpan K m a0 x1 x2 x3 = some q) : MM w K K yX9_isSpan cX9_isSpan 4 (some .boolean) rm_X9_isSpan [.ref a0, .int x1, .int x2, .int x3] m (some (.int q)) m 0 0 :=
  mm_of (ini := false) (n := 0) (plainFor_of_name (by decide)) rfl (fun h => by first | rfl | cases h) (Nat.le_of_ble_eq_true rfl) rfl (v_X9_isSpan_0 t_a0 hf)

set_option maxHeartbeats 4000000 in
theorem v_X9_opened_60 {w : Wo} {K : Kn} {a0 : Nat} {x1 : Int32} {x2 : Int32} {x3 : Int32} {q : (Int32 × Mem)} (t_a0 : K a0 = some (.inl 8)) (k6 : Mem → Int32 → Int32 → Option (Int32 × Mem)) (hk6 : ∀ (m : Mem) (x4 : Int32) (x5 : Int32), k6 m x4 x5 = some q → VV w RX9 cX9_opened 6 (some .int) rm_X9_opened false (QM w K (some (.int q.1)) q.2 0 0) K 6 [some (.ref a0), some (.int x1), some (.int x2), some (.int x3), some (.int x4), some (.int x5)] [] 0 0 m) {m : Mem} {x5 : Int32} {s0 : Int32} {s1 : Int32} (hf : f_X9_opened_60 K a0 x1 x2 x3 k6 m x5 s0 s1 = some q) : VV w RX9 cX9_opened 6 (some .int) rm_X9_opened false (QM w K (some (.int q.1)) q.2 0 0) K 60 [some (.ref a0), some (.int x1), some (.int x2), some (.int x3), none, some (.int x5)] [.int s1, .int s0] 0 0 m := by
  unfold f_X9_opened_60 at hf
  refine vv_iadd 61 dX9_opened_60 rfl ?_
  obtain ⟨z1, e_z1, hf⟩ := bd_s hf
  refine vv_istoreE (q := 63) (v := z1) (L' := [some (.ref a0), some (.int x1), some (.int x2), some (.int x3), some (.int z1), some (.int x5)]) e_z1 dX9_opened_61 rfl (Nat.le_of_ble_eq_true rfl) rfl ?_
  obtain ⟨z2, e_z2, hf⟩ := bd_s hf
  refine vv_iincE (q := 66) (v := z2) (c := 1) (L' := [some (.ref a0), some (.int x1), some (.int x2), some (.int x3), some (.int z1), some (.int z2)]) e_z2 dX9_opened_63 rfl rfl (by decide) (Nat.le_of_ble_eq_true rfl) rfl ?_
  refine vv_goto 6 dX9_opened_66 (by decide) ?_
  exact hk6 _ _ _ hf

set_option maxHeartbeats 4000000 in
theorem v_X9_opened_59 {w : Wo} {K : Kn} {a0 : Nat} {x1 : Int32} {x2 : Int32} {x3 : Int32} {q : (Int32 × Mem)} (t_a0 : K a0 = some (.inl 8)) (k6 : Mem → Int32 → Int32 → Option (Int32 × Mem)) (hk6 : ∀ (m : Mem) (x4 : Int32) (x5 : Int32), k6 m x4 x5 = some q → VV w RX9 cX9_opened 6 (some .int) rm_X9_opened false (QM w K (some (.int q.1)) q.2 0 0) K 6 [some (.ref a0), some (.int x1), some (.int x2), some (.int x3), some (.int x4), some (.int x5)] [] 0 0 m) {m : Mem} {x5 : Int32} {s0 : Int32} (hf : f_X9_opened_59 K a0 x1 x2 x3 k6 m x5 s0 = some q) : VV w RX9 cX9_opened 6 (some .int) rm_X9_opened false (QM w K (some (.int q.1)) q.2 0 0) K 59 [some (.ref a0), some (.int x1), some (.int x2), some (.int x3), none, some (.int x5)] [.int s0] 0 0 m := by
  unfold f_X9_opened_59 at hf
  refine vv_iconst 60 (v := 0) dX9_opened_59 rfl (by decide) ?_
  exact v_X9_opened_60 t_a0 k6 hk6 hf

set_option maxHeartbeats 4000000 in
theorem v_X9_opened_6B {w : Wo} {K : Kn} {a0 : Nat} {x1 : Int32} {x2 : Int32} {x3 : Int32} {q : (Int32 × Mem)} (t_a0 : K a0 = some (.inl 8)) (k6 : Mem → Int32 → Int32 → Option (Int32 × Mem)) (hk6 : ∀ (m : Mem) (x4 : Int32) (x5 : Int32), k6 m x4 x5 = some q → VV w RX9 cX9_opened 6 (some .int) rm_X9_opened false (QM w K (some (.int q.1)) q.2 0 0) K 6 [some (.ref a0), some (.int x1), some (.int x2), some (.int x3), some (.int x4), some (.int x5)] [] 0 0 m) {m : Mem} {x4 : Int32} {x5 : Int32} (hf : f_X9_opened_6B K a0 x1 x2 x3 k6 m x4 x5 = some q) : VV w RX9 cX9_opened 6 (some .int) rm_X9_opened false (QM w K (some (.int q.1)) q.2 0 0) K 6 [some (.ref a0), some (.int x1), some (.int x2), some (.int x3), some (.int x4), some (.int x5)] [] 0 0 m := by
  unfold f_X9_opened_6B at hf
  refine vv_iload 8 dX9_opened_6 rfl rfl ?_
  refine vv_aload_n 9 dX9_opened_8 rfl rfl ?_
  obtain ⟨b1, g_b1, hf⟩ := bind_s hf
  have t_b1 := (ldA_spec g_b1).2
  refine gf_RX9_16 12 dX9_opened_9 rfl t_a0 (ldA_spec g_b1).1 ?_
  refine vv_iload_n 13 dX9_opened_12 rfl rfl ?_
  obtain ⟨r2, g_r2, hf⟩ := bind_s hf
  refine vv_iald 14 dX9_opened_13 rfl t_b1 g_r2 ?_
  refine vv_icmp_ge 69 17 dX9_opened_14 rfl (by decide) (fun c3 => ?_) (fun c3 => ?_)
  · rw [if_pos c3] at hf
    refine vv_iload 71 dX9_opened_69 rfl rfl ?_
    obtain rfl := Option.some.inj hf
    exact vv_iret dX9_opened_71 rfl
  · rw [if_neg c3] at hf
    refine vv_iload 19 dX9_opened_17 rfl rfl ?_
    refine vv_aload_n 20 dX9_opened_19 rfl rfl ?_
    refine vv_bipush 22 (v := 16) dX9_opened_20 rfl (by decide) ?_
    refine vv_iload_n 23 dX9_opened_22 rfl rfl ?_
    refine vv_imul 24 dX9_opened_23 rfl ?_
    refine vv_iload 26 dX9_opened_24 rfl rfl ?_
    refine vv_iadd 27 dX9_opened_26 rfl ?_
    obtain ⟨q4, g_q4, hf⟩ := bind_s hf
    refine vv_callV 30 (st := [.int x4]) (As := [.int (((16 : Int32) * x1) + x5)]) (stk2 := [.int q4.1, .int x4]) (cl2 := 0) (sl2 := 0) dX9_opened_27 rfl lk_RX9_245 w_1365 w_44 rfl t_a0 ⟨(Nat.le_of_ble_eq_true rfl), (Nat.le_of_ble_eq_true rfl)⟩ rfl rfl ⟨(Nat.le_of_ble_eq_true rfl), (Nat.le_of_ble_eq_true rfl)⟩ rfl (Nat.le_of_ble_eq_true rfl) rfl rfl rfl rfl (c_X9_isBroken t_a0 g_q4) ?_
    refine vv_if_ne 59 33 dX9_opened_30 rfl (by decide) (fun c5 => ?_) (fun c5 => ?_)
    · rw [if_pos c5] at hf
      refine vv_aload_n 34 dX9_opened_33 rfl rfl ?_
      obtain ⟨b6, g_b6, hf⟩ := bind_s hf
      have t_b6 := (ldA_spec g_b6).2
      refine gf_RX9_51 37 dX9_opened_34 rfl t_a0 (ldA_spec g_b6).1 ?_
      refine vv_iconst 38 (v := 0) dX9_opened_37 rfl (by decide) ?_
      obtain ⟨r7, g_r7, hf⟩ := bind_s hf
      refine vv_lald 39 dX9_opened_38 rfl t_b6 g_r7 ?_
      refine vv_iload_n 40 dX9_opened_39 rfl rfl ?_
      refine vv_i2l 41 dX9_opened_40 rfl ?_
      refine vv_lcmp 42 dX9_opened_41 rfl ?_
      refine vv_if_gt 59 45 dX9_opened_42 rfl (by decide) (fun c8 => ?_) (fun c8 => ?_)
      · rw [if_pos c8] at hf
        exact VV.lle (v_X9_opened_59 t_a0 k6 hk6 hf) (lle_s (lle_s (lle_s (lle_s (lle_n (lle_s lle_nil))))))
      · rw [if_neg c8] at hf
        refine vv_aload_n 46 dX9_opened_45 rfl rfl ?_
        refine gf_RX9_149 49 dX9_opened_46 rfl t_a0 ?_
        refine vv_iload_n 50 dX9_opened_49 rfl rfl ?_
        refine vv_i2l 51 dX9_opened_50 rfl ?_
        refine vv_lcmp 52 dX9_opened_51 rfl ?_
        refine vv_if_lt 59 55 dX9_opened_52 rfl (by decide) (fun c9 => ?_) (fun c9 => ?_)
        · rw [if_pos c9] at hf
          exact VV.lle (v_X9_opened_59 t_a0 k6 hk6 hf) (lle_s (lle_s (lle_s (lle_s (lle_n (lle_s lle_nil))))))
        · rw [if_neg c9] at hf
          refine vv_iconst 56 (v := 1) dX9_opened_55 rfl (by decide) ?_
          refine vv_goto 60 dX9_opened_56 (by decide) ?_
          exact VV.lle (v_X9_opened_60 t_a0 k6 hk6 hf) (lle_s (lle_s (lle_s (lle_s (lle_n (lle_s lle_nil))))))
    · rw [if_neg c5] at hf
      exact VV.lle (v_X9_opened_59 t_a0 k6 hk6 hf) (lle_s (lle_s (lle_s (lle_s (lle_n (lle_s lle_nil))))))

theorem v_X9_opened_6 {w : Wo} {K : Kn} {a0 : Nat} {x1 : Int32} {x2 : Int32} {x3 : Int32} {q : (Int32 × Mem)} (t_a0 : K a0 = some (.inl 8)) : ∀ (n : Nat) (m : Mem) (x4 : Int32) (x5 : Int32), f_X9_opened_6 K a0 x1 x2 x3 n m x4 x5 = some q → VV w RX9 cX9_opened 6 (some .int) rm_X9_opened false (QM w K (some (.int q.1)) q.2 0 0) K 6 [some (.ref a0), some (.int x1), some (.int x2), some (.int x3), some (.int x4), some (.int x5)] [] 0 0 m := by
  intro n
  induction n with
  | zero => intro m x4 x5 hf; cases hf
  | succ n ih => intro m x4 x5 hf; exact v_X9_opened_6B (a0 := a0) (x1 := x1) (x2 := x2) (x3 := x3) t_a0 (f_X9_opened_6 K a0 x1 x2 x3 n) ih hf

set_option maxHeartbeats 4000000 in
theorem v_X9_opened_0 {w : Wo} {K : Kn} {a0 : Nat} {x1 : Int32} {x2 : Int32} {x3 : Int32} {q : (Int32 × Mem)} (t_a0 : K a0 = some (.inl 8)) {m : Mem} (hf : f_X9_opened K a0 x1 x2 x3 m = some q) : VV w RX9 cX9_opened 6 (some .int) rm_X9_opened false (QM w K (some (.int q.1)) q.2 0 0) K 0 [some (.ref a0), some (.int x1), some (.int x2), some (.int x3), none, none] [] 0 0 m := by
  unfold f_X9_opened at hf
  refine vv_iconst 1 (v := 0) dX9_opened_0 rfl (by decide) ?_
  refine vv_istore 3 (L' := [some (.ref a0), some (.int x1), some (.int x2), some (.int x3), some (.int (0 : Int32)), none]) dX9_opened_1 rfl (Nat.le_of_ble_eq_true rfl) rfl ?_
  refine vv_iconst 4 (v := 0) dX9_opened_3 rfl (by decide) ?_
  refine vv_istore 6 (L' := [some (.ref a0), some (.int x1), some (.int x2), some (.int x3), some (.int (0 : Int32)), some (.int (0 : Int32))]) dX9_opened_4 rfl (Nat.le_of_ble_eq_true rfl) rfl ?_
  exact v_X9_opened_6 t_a0 FU _ _ _ hf

theorem c_X9_opened {w : Wo} {K : Kn} {a0 : Nat} {x1 : Int32} {x2 : Int32} {x3 : Int32} {q : (Int32 × Mem)} {m : Mem} (t_a0 : K a0 = some (.inl 8)) (hf : F_X9_opened K m a0 x1 x2 x3 = some q) : MM w K K yX9_opened cX9_opened 6 (some .int) rm_X9_opened [.ref a0, .int x1, .int x2, .int x3] m (some (.int q.1)) q.2 0 0 :=
  mm_of (ini := false) (n := 2) (plainFor_of_name (by decide)) rfl (fun h => by first | rfl | cases h) (Nat.le_of_ble_eq_true rfl) rfl (v_X9_opened_0 t_a0 hf)

set_option maxHeartbeats 4000000 in
theorem v_X9_laysSpan_0 {w : Wo} {K : Kn} {a0 : Nat} {x1 : Int32} {x2 : Int32} {x3 : Int32} {q : Mem} (t_a0 : K a0 = some (.inl 8)) {m : Mem} (hf : f_X9_laysSpan K a0 x1 x2 x3 m = some q) : VV w RX9 cX9_laysSpan 4 none rm_X9_laysSpan false (QM w K none q 0 0) K 0 [some (.ref a0), some (.int x1), some (.int x2), some (.int x3)] [] 0 0 m := by
  unfold f_X9_laysSpan at hf
  refine vv_aload_n 1 dX9_laysSpan_0 rfl rfl ?_
  refine vv_iload_n 2 dX9_laysSpan_1 rfl rfl ?_
  obtain ⟨q1, g_q1, hf⟩ := bind_s hf
  refine vv_callV 5 (st := []) (As := [.int x1]) (stk2 := []) (cl2 := 0) (sl2 := 0) dX9_laysSpan_2 rfl lk_RX9_297 w_1369 w_45 rfl t_a0 ⟨(Nat.le_of_ble_eq_true rfl), (Nat.le_of_ble_eq_true rfl)⟩ rfl rfl ⟨(Nat.le_of_ble_eq_true rfl), (Nat.le_of_ble_eq_true rfl)⟩ rfl (Nat.le_of_ble_eq_true rfl) rfl rfl rfl rfl (c_X9_gathers t_a0 g_q1) ?_
  refine vv_aload_n 6 dX9_laysSpan_5 rfl rfl ?_
  refine vv_aload_n 7 dX9_laysSpan_6 rfl rfl ?_
  refine vv_iload_n 8 dX9_laysSpan_7 rfl rfl ?_
  refine vv_i2l 9 dX9_laysSpan_8 rfl ?_
  obtain ⟨q2, g_q2, hf⟩ := bind_s hf
  refine vv_callV 12 (st := [.ref a0]) (As := [.long ((x2).toInt64)]) (stk2 := [.int q2, .ref a0]) (cl2 := 0) (sl2 := 0) dX9_laysSpan_9 rfl lk_RX9_251 w_1373 w_46 rfl t_a0 ⟨(Nat.le_of_ble_eq_true rfl), (Nat.le_of_ble_eq_true rfl)⟩ rfl rfl ⟨(Nat.le_of_ble_eq_true rfl), (Nat.le_of_ble_eq_true rfl)⟩ rfl (Nat.le_of_ble_eq_true rfl) rfl rfl rfl rfl (c_X9_firstNot t_a0 g_q2) ?_
  obtain ⟨m3, e_m3, hf⟩ := bd_s hf
  refine pf_RX9_337 15 dX9_laysSpan_12 rfl t_a0 e_m3 ?_
  refine vv_aload_n 16 dX9_laysSpan_15 rfl rfl ?_
  refine vv_aload_n 17 dX9_laysSpan_16 rfl rfl ?_
  refine vv_iload_n 18 dX9_laysSpan_17 rfl rfl ?_
  refine vv_i2l 19 dX9_laysSpan_18 rfl ?_
  refine vv_lconst 20 (v := 1) dX9_laysSpan_19 rfl (by decide) ?_
  refine vv_ladd 21 dX9_laysSpan_20 rfl ?_
  obtain ⟨q4, g_q4, hf⟩ := bind_s hf
  refine vv_callV 24 (st := [.ref a0]) (As := [.long (((x3).toInt64) + (1 : Int64))]) (stk2 := [.int q4, .ref a0]) (cl2 := 0) (sl2 := 0) dX9_laysSpan_21 rfl lk_RX9_251 w_1373 w_46 rfl t_a0 ⟨(Nat.le_of_ble_eq_true rfl), (Nat.le_of_ble_eq_true rfl)⟩ rfl rfl ⟨(Nat.le_of_ble_eq_true rfl), (Nat.le_of_ble_eq_true rfl)⟩ rfl (Nat.le_of_ble_eq_true rfl) rfl rfl rfl rfl (c_X9_firstNot t_a0 g_q4) ?_
  obtain ⟨m5, e_m5, hf⟩ := bd_s hf
  refine pf_RX9_340 27 dX9_laysSpan_24 rfl t_a0 e_m5 ?_
  obtain rfl := Option.some.inj hf
  exact vv_vret dX9_laysSpan_27 rfl

theorem c_X9_laysSpan {w : Wo} {K : Kn} {a0 : Nat} {x1 : Int32} {x2 : Int32} {x3 : Int32} {q : Mem} {m : Mem} (t_a0 : K a0 = some (.inl 8)) (hf : F_X9_laysSpan K m a0 x1 x2 x3 = some q) : MM w K K yX9_laysSpan cX9_laysSpan 4 none rm_X9_laysSpan [.ref a0, .int x1, .int x2, .int x3] m none q 0 0 :=
  mm_of (ini := false) (n := 0) (plainFor_of_name (by decide)) rfl (fun h => by first | rfl | cases h) (Nat.le_of_ble_eq_true rfl) rfl (v_X9_laysSpan_0 t_a0 hf)

set_option maxHeartbeats 4000000 in
theorem v_X9_isNumber_0 {w : Wo} {K : Kn} {x0 : Int64} {q : Int32} {m : Mem} (hf : f_X9_isNumber x0 = some q) : VV w RX9 cX9_isNumber 2 (some .boolean) rm_X9_isNumber false (QM w K (some (.int q)) m 0 0) K 0 [some (.long x0), none] [] 0 0 m := by
  unfold f_X9_isNumber at hf
  refine vv_lload_n 1 dX9_isNumber_0 rfl rfl ?_
  refine vv_ldc2 4 (v := 9223372036854775807) dX9_isNumber_1 rfl w_1509 ?_
  refine vv_land 5 dX9_isNumber_4 rfl ?_
  refine vv_ldc2 8 (v := 9218868437227405312) dX9_isNumber_5 rfl w_1510 ?_
  refine vv_lcmp 9 dX9_isNumber_8 rfl ?_
  refine vv_if_gt 16 12 dX9_isNumber_9 rfl (by decide) (fun c1 => ?_) (fun c1 => ?_)
  · rw [if_pos c1] at hf
    refine vv_iconst 17 (v := 0) dX9_isNumber_16 rfl (by decide) ?_
    obtain rfl := Option.some.inj hf
    exact vv_zret dX9_isNumber_17 rfl (Or.inl rfl)
  · rw [if_neg c1] at hf
    refine vv_iconst 13 (v := 1) dX9_isNumber_12 rfl (by decide) ?_
    refine vv_goto 17 dX9_isNumber_13 (by decide) ?_
    obtain rfl := Option.some.inj hf
    exact vv_zret dX9_isNumber_17 rfl (Or.inr rfl)

theorem c_X9_isNumber {w : Wo} {K : Kn} {x0 : Int64} {q : Int32} {m : Mem} (hf : F_X9_isNumber x0 = some q) : MM w K K yX9_isNumber cX9_isNumber 2 (some .boolean) rm_X9_isNumber [.long x0] m (some (.int q)) m 0 0 :=
  mm_of (ini := false) (n := 0) (plainFor_of_name (by decide)) rfl (fun h => by first | rfl | cases h) (Nat.le_of_ble_eq_true rfl) rfl (v_X9_isNumber_0 hf)

set_option maxHeartbeats 4000000 in
theorem v_X9_span_138 {w : Wo} {K : Kn} {a0 : Nat} {x1 : Int32} {x2 : Int32} {x3 : Int32} {x4 : Int32} {q : (Int32 × Mem)} (t_a0 : K a0 = some (.inl 8)) (k57 : Mem → Int32 → Int32 → Int32 → Int32 → Int32 → Option (Int32 × Mem)) (hk57 : ∀ (m : Mem) (x5 : Int32) (x6 : Int32) (x7 : Int32) (x8 : Int32) (x9 : Int32), k57 m x5 x6 x7 x8 x9 = some q → VV w RX9 cX9_span 10 (some .int) rm_X9_span false (QM w K (some (.int q.1)) q.2 0 0) K 57 [some (.ref a0), none, none, none, some (.int x4), some (.int x5), some (.int x6), some (.int x7), some (.int x8), some (.int x9)] [] 0 0 m) {m : Mem} {x5 : Int32} {x6 : Int32} {x7 : Int32} {x9 : Int32} {s0 : Int32} {s1 : Int32} (hf : f_X9_span_138 K a0 x1 x2 x3 x4 k57 m x5 x6 x7 x9 s0 s1 = some q) : VV w RX9 cX9_span 10 (some .int) rm_X9_span false (QM w K (some (.int q.1)) q.2 0 0) K 138 [some (.ref a0), none, none, none, some (.int x4), some (.int x5), some (.int x6), some (.int x7), none, some (.int x9)] [.int s1, .int s0] 0 0 m := by
  unfold f_X9_span_138 at hf
  refine vv_iadd 139 dX9_span_138 rfl ?_
  obtain ⟨z1, e_z1, hf⟩ := bd_s hf
  refine vv_istoreE (q := 141) (v := z1) (L' := [some (.ref a0), none, none, none, some (.int x4), some (.int x5), some (.int x6), some (.int x7), some (.int z1), some (.int x9)]) e_z1 dX9_span_139 rfl (Nat.le_of_ble_eq_true rfl) rfl ?_
  obtain ⟨z2, e_z2, hf⟩ := bd_s hf
  refine vv_iincE (q := 144) (v := z2) (c := 1) (L' := [some (.ref a0), none, none, none, some (.int x4), some (.int x5), some (.int x6), some (.int x7), some (.int z1), some (.int z2)]) e_z2 dX9_span_141 rfl rfl (by decide) (Nat.le_of_ble_eq_true rfl) rfl ?_
  refine vv_goto 57 dX9_span_144 (by decide) ?_
  exact hk57 _ _ _ _ _ _ hf

set_option maxHeartbeats 4000000 in
theorem v_X9_span_110 {w : Wo} {K : Kn} {a0 : Nat} {x1 : Int32} {x2 : Int32} {x3 : Int32} {x4 : Int32} {q : (Int32 × Mem)} (t_a0 : K a0 = some (.inl 8)) (k57 : Mem → Int32 → Int32 → Int32 → Int32 → Int32 → Option (Int32 × Mem)) (hk57 : ∀ (m : Mem) (x5 : Int32) (x6 : Int32) (x7 : Int32) (x8 : Int32) (x9 : Int32), k57 m x5 x6 x7 x8 x9 = some q → VV w RX9 cX9_span 10 (some .int) rm_X9_span false (QM w K (some (.int q.1)) q.2 0 0) K 57 [some (.ref a0), none, none, none, some (.int x4), some (.int x5), some (.int x6), some (.int x7), some (.int x8), some (.int x9)] [] 0 0 m) {m : Mem} {x5 : Int32} {x6 : Int32} {x8 : Int32} {x9 : Int32} {s0 : Int32} {s1 : Int32} (hf : f_X9_span_110 K a0 x1 x2 x3 x4 k57 m x5 x6 x8 x9 s0 s1 = some q) : VV w RX9 cX9_span 10 (some .int) rm_X9_span false (QM w K (some (.int q.1)) q.2 0 0) K 110 [some (.ref a0), none, none, none, some (.int x4), some (.int x5), some (.int x6), none, some (.int x8), some (.int x9)] [.int s1, .int s0] 0 0 m := by
  unfold f_X9_span_110 at hf
  refine vv_iadd 111 dX9_span_110 rfl ?_
  obtain ⟨z1, e_z1, hf⟩ := bd_s hf
  refine vv_istoreE (q := 113) (v := z1) (L' := [some (.ref a0), none, none, none, some (.int x4), some (.int x5), some (.int x6), some (.int z1), some (.int x8), some (.int x9)]) e_z1 dX9_span_111 rfl (Nat.le_of_ble_eq_true rfl) rfl ?_
  refine vv_iload 115 dX9_span_113 rfl rfl ?_
  refine vv_aload_n 116 dX9_span_115 rfl rfl ?_
  obtain ⟨b2, g_b2, hf⟩ := bind_s hf
  have t_b2 := (ldA_spec g_b2).2
  refine gf_RX9_69 119 dX9_span_116 rfl t_a0 (ldA_spec g_b2).1 ?_
  refine vv_iload 121 dX9_span_119 rfl rfl ?_
  obtain ⟨r3, g_r3, hf⟩ := bind_s hf
  refine vv_lald 122 dX9_span_121 rfl t_b2 g_r3 ?_
  refine vv_ldc2 125 (v := 9223372036854775807) dX9_span_122 rfl w_1509 ?_
  refine vv_land 126 dX9_span_125 rfl ?_
  refine vv_ldc2 129 (v := 9218868437227405312) dX9_span_126 rfl w_1510 ?_
  refine vv_lcmp 130 dX9_span_129 rfl ?_
  refine vv_if_ne 137 133 dX9_span_130 rfl (by decide) (fun c4 => ?_) (fun c4 => ?_)
  · rw [if_pos c4] at hf
    refine vv_iconst 134 (v := 1) dX9_span_133 rfl (by decide) ?_
    refine vv_goto 138 dX9_span_134 (by decide) ?_
    exact VV.lle (v_X9_span_138 t_a0 k57 hk57 hf) (lle_s (lle_s (lle_s (lle_s (lle_s (lle_s (lle_s (lle_s (lle_n (lle_s lle_nil))))))))))
  · rw [if_neg c4] at hf
    refine vv_iconst 138 (v := 0) dX9_span_137 rfl (by decide) ?_
    exact VV.lle (v_X9_span_138 t_a0 k57 hk57 hf) (lle_s (lle_s (lle_s (lle_s (lle_s (lle_s (lle_s (lle_s (lle_n (lle_s lle_nil))))))))))

set_option maxHeartbeats 4000000 in
theorem v_X9_span_86 {w : Wo} {K : Kn} {a0 : Nat} {x1 : Int32} {x2 : Int32} {x3 : Int32} {x4 : Int32} {q : (Int32 × Mem)} (t_a0 : K a0 = some (.inl 8)) (k57 : Mem → Int32 → Int32 → Int32 → Int32 → Int32 → Option (Int32 × Mem)) (hk57 : ∀ (m : Mem) (x5 : Int32) (x6 : Int32) (x7 : Int32) (x8 : Int32) (x9 : Int32), k57 m x5 x6 x7 x8 x9 = some q → VV w RX9 cX9_span 10 (some .int) rm_X9_span false (QM w K (some (.int q.1)) q.2 0 0) K 57 [some (.ref a0), none, none, none, some (.int x4), some (.int x5), some (.int x6), some (.int x7), some (.int x8), some (.int x9)] [] 0 0 m) {m : Mem} {x5 : Int32} {x7 : Int32} {x8 : Int32} {x9 : Int32} {s0 : Int32} {s1 : Int32} (hf : f_X9_span_86 K a0 x1 x2 x3 x4 k57 m x5 x7 x8 x9 s0 s1 = some q) : VV w RX9 cX9_span 10 (some .int) rm_X9_span false (QM w K (some (.int q.1)) q.2 0 0) K 86 [some (.ref a0), none, none, none, some (.int x4), some (.int x5), none, some (.int x7), some (.int x8), some (.int x9)] [.int s1, .int s0] 0 0 m := by
  unfold f_X9_span_86 at hf
  refine vv_iadd 87 dX9_span_86 rfl ?_
  obtain ⟨z1, e_z1, hf⟩ := bd_s hf
  refine vv_istoreE (q := 89) (v := z1) (L' := [some (.ref a0), none, none, none, some (.int x4), some (.int x5), some (.int z1), some (.int x7), some (.int x8), some (.int x9)]) e_z1 dX9_span_87 rfl (Nat.le_of_ble_eq_true rfl) rfl ?_
  refine vv_iload 91 dX9_span_89 rfl rfl ?_
  refine vv_aload_n 92 dX9_span_91 rfl rfl ?_
  obtain ⟨b2, g_b2, hf⟩ := bind_s hf
  have t_b2 := (ldA_spec g_b2).2
  refine gf_RX9_69 95 dX9_span_92 rfl t_a0 (ldA_spec g_b2).1 ?_
  refine vv_iload 97 dX9_span_95 rfl rfl ?_
  obtain ⟨r3, g_r3, hf⟩ := bind_s hf
  refine vv_lald 98 dX9_span_97 rfl t_b2 g_r3 ?_
  refine vv_ldc2 101 (v := (-9223372036854775808)) dX9_span_98 rfl w_1511 ?_
  refine vv_lcmp 102 dX9_span_101 rfl ?_
  refine vv_if_ne 109 105 dX9_span_102 rfl (by decide) (fun c4 => ?_) (fun c4 => ?_)
  · rw [if_pos c4] at hf
    refine vv_iconst 106 (v := 1) dX9_span_105 rfl (by decide) ?_
    refine vv_goto 110 dX9_span_106 (by decide) ?_
    exact VV.lle (v_X9_span_110 t_a0 k57 hk57 hf) (lle_s (lle_s (lle_s (lle_s (lle_s (lle_s (lle_s (lle_n (lle_s (lle_s lle_nil))))))))))
  · rw [if_neg c4] at hf
    refine vv_iconst 110 (v := 0) dX9_span_109 rfl (by decide) ?_
    exact VV.lle (v_X9_span_110 t_a0 k57 hk57 hf) (lle_s (lle_s (lle_s (lle_s (lle_s (lle_s (lle_s (lle_n (lle_s (lle_s lle_nil))))))))))

set_option maxHeartbeats 4000000 in
theorem v_X9_span_265 {w : Wo} {K : Kn} {a0 : Nat} {x1 : Int32} {x2 : Int32} {x3 : Int32} {x4 : Int32} {q : (Int32 × Mem)} (t_a0 : K a0 = some (.inl 8)) {m : Mem} {x8 : Int32} (hf : f_X9_span_265 K a0 x1 x2 x3 x4 m x8 = some q) : VV w RX9 cX9_span 10 (some .int) rm_X9_span false (QM w K (some (.int q.1)) q.2 0 0) K 265 [none, none, none, none, none, none, none, none, some (.int x8), none] [] 0 0 m := by
  unfold f_X9_span_265 at hf
  refine vv_iload 267 dX9_span_265 rfl rfl ?_
  obtain rfl := Option.some.inj hf
  exact vv_iret dX9_span_267 rfl

set_option maxHeartbeats 4000000 in
theorem v_X9_span_204 {w : Wo} {K : Kn} {a0 : Nat} {x1 : Int32} {x2 : Int32} {x3 : Int32} {x4 : Int32} {q : (Int32 × Mem)} (t_a0 : K a0 = some (.inl 8)) {m : Mem} (hf : f_X9_span_204 K a0 x1 x2 x3 x4 m = some q) : VV w RX9 cX9_span 10 (some .int) rm_X9_span false (QM w K (some (.int q.1)) q.2 0 0) K 204 [some (.ref a0), none, none, none, none, none, none, none, none, none] [] 0 0 m := by
  unfold f_X9_span_204 at hf
  refine vv_aload_n 205 dX9_span_204 rfl rfl ?_
  refine gf_RX9_340 208 dX9_span_205 rfl t_a0 ?_
  refine vv_aload_n 209 dX9_span_208 rfl rfl ?_
  refine gf_RX9_337 212 dX9_span_209 rfl t_a0 ?_
  refine vv_isub 213 dX9_span_212 rfl ?_
  obtain rfl := Option.some.inj hf
  exact vv_iret dX9_span_213 rfl

set_option maxHeartbeats 4000000 in
theorem v_X9_span_214 {w : Wo} {K : Kn} {a0 : Nat} {x1 : Int32} {x2 : Int32} {x3 : Int32} {x4 : Int32} {q : (Int32 × Mem)} (t_a0 : K a0 = some (.inl 8)) {m : Mem} {x5 : Int32} (hf : f_X9_span_214 K a0 x1 x2 x3 x4 m x5 = some q) : VV w RX9 cX9_span 10 (some .int) rm_X9_span false (QM w K (some (.int q.1)) q.2 0 0) K 214 [none, none, none, none, none, some (.int x5), none, none, none, none] [] 0 0 m := by
  unfold f_X9_span_214 at hf
  refine vv_iload 216 dX9_span_214 rfl rfl ?_
  obtain rfl := Option.some.inj hf
  exact vv_iret dX9_span_216 rfl

set_option maxHeartbeats 4000000 in
theorem v_X9_span_217 {w : Wo} {K : Kn} {a0 : Nat} {x1 : Int32} {x2 : Int32} {x3 : Int32} {x4 : Int32} {q : (Int32 × Mem)} (t_a0 : K a0 = some (.inl 8)) {m : Mem} {x9 : Int32} (hf : f_X9_span_217 K a0 x1 x2 x3 x4 m x9 = some q) : VV w RX9 cX9_span 10 (some .int) rm_X9_span false (QM w K (some (.int q.1)) q.2 0 0) K 217 [some (.ref a0), none, none, none, none, none, none, none, none, some (.int x9)] [] 0 0 m := by
  unfold f_X9_span_217 at hf
  refine vv_iload 219 dX9_span_217 rfl rfl ?_
  refine vv_if_eq 235 222 dX9_span_219 rfl (by decide) (fun c1 => ?_) (fun c1 => ?_)
  · rw [if_pos c1] at hf
    refine vv_iconst 236 (v := (-1)) dX9_span_235 rfl (by decide) ?_
    obtain rfl := Option.some.inj hf
    exact vv_iret dX9_span_236 rfl
  · rw [if_neg c1] at hf
    refine vv_aload_n 223 dX9_span_222 rfl rfl ?_
    obtain ⟨b2, g_b2, hf⟩ := bind_s hf
    have t_b2 := (ldA_spec g_b2).2
    refine gf_RX9_66 226 dX9_span_223 rfl t_a0 (ldA_spec g_b2).1 ?_
    refine vv_aload_n 227 dX9_span_226 rfl rfl ?_
    refine gf_RX9_337 230 dX9_span_227 rfl t_a0 ?_
    obtain ⟨r3, g_r3, hf⟩ := bind_s hf
    refine vv_lald 231 dX9_span_230 rfl t_b2 g_r3 ?_
    refine vv_l2i 232 dX9_span_231 rfl ?_
    refine vv_goto 236 dX9_span_232 (by decide) ?_
    obtain rfl := Option.some.inj hf
    exact vv_iret dX9_span_236 rfl

set_option maxHeartbeats 4000000 in
theorem v_X9_span_237 {w : Wo} {K : Kn} {a0 : Nat} {x1 : Int32} {x2 : Int32} {x3 : Int32} {x4 : Int32} {q : (Int32 × Mem)} (t_a0 : K a0 = some (.inl 8)) {m : Mem} {x9 : Int32} (hf : f_X9_span_237 K a0 x1 x2 x3 x4 m x9 = some q) : VV w RX9 cX9_span 10 (some .int) rm_X9_span false (QM w K (some (.int q.1)) q.2 0 0) K 237 [some (.ref a0), none, none, none, none, none, none, none, none, some (.int x9)] [] 0 0 m := by
  unfold f_X9_span_237 at hf
  refine vv_iload 239 dX9_span_237 rfl rfl ?_
  refine vv_if_eq 257 242 dX9_span_239 rfl (by decide) (fun c1 => ?_) (fun c1 => ?_)
  · rw [if_pos c1] at hf
    refine vv_iconst 258 (v := (-1)) dX9_span_257 rfl (by decide) ?_
    obtain rfl := Option.some.inj hf
    exact vv_iret dX9_span_258 rfl
  · rw [if_neg c1] at hf
    refine vv_aload_n 243 dX9_span_242 rfl rfl ?_
    obtain ⟨b2, g_b2, hf⟩ := bind_s hf
    have t_b2 := (ldA_spec g_b2).2
    refine gf_RX9_66 246 dX9_span_243 rfl t_a0 (ldA_spec g_b2).1 ?_
    refine vv_aload_n 247 dX9_span_246 rfl rfl ?_
    refine gf_RX9_340 250 dX9_span_247 rfl t_a0 ?_
    refine vv_iconst 251 (v := 1) dX9_span_250 rfl (by decide) ?_
    refine vv_isub 252 dX9_span_251 rfl ?_
    obtain ⟨r3, g_r3, hf⟩ := bind_s hf
    refine vv_lald 253 dX9_span_252 rfl t_b2 g_r3 ?_
    refine vv_l2i 254 dX9_span_253 rfl ?_
    refine vv_goto 258 dX9_span_254 (by decide) ?_
    obtain rfl := Option.some.inj hf
    exact vv_iret dX9_span_258 rfl

set_option maxHeartbeats 4000000 in
theorem v_X9_span_259 {w : Wo} {K : Kn} {a0 : Nat} {x1 : Int32} {x2 : Int32} {x3 : Int32} {x4 : Int32} {q : (Int32 × Mem)} (t_a0 : K a0 = some (.inl 8)) {m : Mem} {x6 : Int32} (hf : f_X9_span_259 K a0 x1 x2 x3 x4 m x6 = some q) : VV w RX9 cX9_span 10 (some .int) rm_X9_span false (QM w K (some (.int q.1)) q.2 0 0) K 259 [none, none, none, none, none, none, some (.int x6), none, none, none] [] 0 0 m := by
  unfold f_X9_span_259 at hf
  refine vv_iload 261 dX9_span_259 rfl rfl ?_
  obtain rfl := Option.some.inj hf
  exact vv_iret dX9_span_261 rfl

set_option maxHeartbeats 4000000 in
theorem v_X9_span_262 {w : Wo} {K : Kn} {a0 : Nat} {x1 : Int32} {x2 : Int32} {x3 : Int32} {x4 : Int32} {q : (Int32 × Mem)} (t_a0 : K a0 = some (.inl 8)) {m : Mem} {x7 : Int32} (hf : f_X9_span_262 K a0 x1 x2 x3 x4 m x7 = some q) : VV w RX9 cX9_span 10 (some .int) rm_X9_span false (QM w K (some (.int q.1)) q.2 0 0) K 262 [none, none, none, none, none, none, none, some (.int x7), none, none] [] 0 0 m := by
  unfold f_X9_span_262 at hf
  refine vv_iload 264 dX9_span_262 rfl rfl ?_
  obtain rfl := Option.some.inj hf
  exact vv_iret dX9_span_264 rfl

set_option maxHeartbeats 4000000 in
theorem v_X9_span_163 {w : Wo} {K : Kn} {a0 : Nat} {x1 : Int32} {x2 : Int32} {x3 : Int32} {x4 : Int32} {q : (Int32 × Mem)} (t_a0 : K a0 = some (.inl 8)) {m : Mem} {x5 : Int32} {x6 : Int32} {x7 : Int32} {x8 : Int32} {s0 : Int32} (hf : f_X9_span_163 K a0 x1 x2 x3 x4 m x5 x6 x7 x8 s0 = some q) : VV w RX9 cX9_span 10 (some .int) rm_X9_span false (QM w K (some (.int q.1)) q.2 0 0) K 163 [some (.ref a0), none, none, none, some (.int x4), some (.int x5), some (.int x6), some (.int x7), some (.int x8), none] [.int s0] 0 0 m := by
  unfold f_X9_span_163 at hf
  refine vv_istore 165 (L' := [some (.ref a0), none, none, none, some (.int x4), some (.int x5), some (.int x6), some (.int x7), some (.int x8), some (.int s0)]) dX9_span_163 rfl (Nat.le_of_ble_eq_true rfl) rfl ?_
  refine vv_iload 167 dX9_span_165 rfl rfl ?_
  by_cases c1 : x4 = 0
  · rw [if_pos c1] at hf
    refine vv_tabK 204 (k := 0) c1 dX9_span_167 (by decide) (by decide) (off := 37) rfl (by decide) ?_
    exact VV.lle (v_X9_span_204 t_a0 hf) (lle_s (lle_s (lle_s (lle_s (lle_n (lle_n (lle_n (lle_n (lle_n (lle_n lle_nil))))))))))
  rw [if_neg c1] at hf
  by_cases c2 : x4 = 1
  · rw [if_pos c2] at hf
    refine vv_tabK 214 (k := 1) c2 dX9_span_167 (by decide) (by decide) (off := 47) rfl (by decide) ?_
    exact VV.lle (v_X9_span_214 t_a0 hf) (lle_n (lle_s (lle_s (lle_s (lle_n (lle_s (lle_n (lle_n (lle_n (lle_n lle_nil))))))))))
  rw [if_neg c2] at hf
  by_cases c3 : x4 = 2
  · rw [if_pos c3] at hf
    refine vv_tabK 217 (k := 2) c3 dX9_span_167 (by decide) (by decide) (off := 50) rfl (by decide) ?_
    exact VV.lle (v_X9_span_217 t_a0 hf) (lle_s (lle_s (lle_s (lle_s (lle_n (lle_n (lle_n (lle_n (lle_n (lle_s lle_nil))))))))))
  rw [if_neg c3] at hf
  by_cases c4 : x4 = 3
  · rw [if_pos c4] at hf
    refine vv_tabK 237 (k := 3) c4 dX9_span_167 (by decide) (by decide) (off := 70) rfl (by decide) ?_
    exact VV.lle (v_X9_span_237 t_a0 hf) (lle_s (lle_s (lle_s (lle_s (lle_n (lle_n (lle_n (lle_n (lle_n (lle_s lle_nil))))))))))
  rw [if_neg c4] at hf
  by_cases c5 : x4 = 4
  · rw [if_pos c5] at hf
    refine vv_tabK 259 (k := 4) c5 dX9_span_167 (by decide) (by decide) (off := 92) rfl (by decide) ?_
    exact VV.lle (v_X9_span_259 t_a0 hf) (lle_n (lle_s (lle_s (lle_s (lle_n (lle_n (lle_s (lle_n (lle_n (lle_n lle_nil))))))))))
  rw [if_neg c5] at hf
  by_cases c6 : x4 = 5
  · rw [if_pos c6] at hf
    refine vv_tabK 262 (k := 5) c6 dX9_span_167 (by decide) (by decide) (off := 95) rfl (by decide) ?_
    exact VV.lle (v_X9_span_262 t_a0 hf) (lle_n (lle_s (lle_s (lle_s (lle_n (lle_n (lle_n (lle_s (lle_n (lle_n lle_nil))))))))))
  rw [if_neg c6] at hf
  refine vv_tabOut 265 dX9_span_167 (tab_out (n := 5) (by decide) (fun k hk => ?_)) (by decide) ?_
  · match k, hk with
    | 0, _ => exact c1
    | 1, _ => exact c2
    | 2, _ => exact c3
    | 3, _ => exact c4
    | 4, _ => exact c5
    | 5, _ => exact c6
    | k + 6, hk => exact absurd hk (by omega)
  exact VV.lle (v_X9_span_265 t_a0 hf) (lle_n (lle_s (lle_s (lle_s (lle_n (lle_n (lle_n (lle_n (lle_s (lle_n lle_nil))))))))))

set_option maxHeartbeats 4000000 in
theorem v_X9_span_57B {w : Wo} {K : Kn} {a0 : Nat} {x1 : Int32} {x2 : Int32} {x3 : Int32} {x4 : Int32} {q : (Int32 × Mem)} (t_a0 : K a0 = some (.inl 8)) (k57 : Mem → Int32 → Int32 → Int32 → Int32 → Int32 → Option (Int32 × Mem)) (hk57 : ∀ (m : Mem) (x5 : Int32) (x6 : Int32) (x7 : Int32) (x8 : Int32) (x9 : Int32), k57 m x5 x6 x7 x8 x9 = some q → VV w RX9 cX9_span 10 (some .int) rm_X9_span false (QM w K (some (.int q.1)) q.2 0 0) K 57 [some (.ref a0), none, none, none, some (.int x4), some (.int x5), some (.int x6), some (.int x7), some (.int x8), some (.int x9)] [] 0 0 m) {m : Mem} {x5 : Int32} {x6 : Int32} {x7 : Int32} {x8 : Int32} {x9 : Int32} (hf : f_X9_span_57B K a0 x1 x2 x3 x4 k57 m x5 x6 x7 x8 x9 = some q) : VV w RX9 cX9_span 10 (some .int) rm_X9_span false (QM w K (some (.int q.1)) q.2 0 0) K 57 [some (.ref a0), none, none, none, some (.int x4), some (.int x5), some (.int x6), some (.int x7), some (.int x8), some (.int x9)] [] 0 0 m := by
  unfold f_X9_span_57B at hf
  refine vv_iload 59 dX9_span_57 rfl rfl ?_
  refine vv_aload_n 60 dX9_span_59 rfl rfl ?_
  refine gf_RX9_340 63 dX9_span_60 rfl t_a0 ?_
  refine vv_icmp_ge 147 66 dX9_span_63 rfl (by decide) (fun c1 => ?_) (fun c1 => ?_)
  · rw [if_pos c1] at hf
    refine vv_aload_n 148 dX9_span_147 rfl rfl ?_
    refine gf_RX9_340 151 dX9_span_148 rfl t_a0 ?_
    refine vv_aload_n 152 dX9_span_151 rfl rfl ?_
    refine gf_RX9_337 155 dX9_span_152 rfl t_a0 ?_
    refine vv_icmp_le 162 158 dX9_span_155 rfl (by decide) (fun c2 => ?_) (fun c2 => ?_)
    · rw [if_pos c2] at hf
      refine vv_iconst 163 (v := 0) dX9_span_162 rfl (by decide) ?_
      exact VV.lle (v_X9_span_163 t_a0 hf) (lle_s (lle_s (lle_s (lle_s (lle_s (lle_s (lle_s (lle_s (lle_s (lle_n lle_nil))))))))))
    · rw [if_neg c2] at hf
      refine vv_iconst 159 (v := 1) dX9_span_158 rfl (by decide) ?_
      refine vv_goto 163 dX9_span_159 (by decide) ?_
      exact VV.lle (v_X9_span_163 t_a0 hf) (lle_s (lle_s (lle_s (lle_s (lle_s (lle_s (lle_s (lle_s (lle_s (lle_n lle_nil))))))))))
  · rw [if_neg c1] at hf
    refine vv_iload 68 dX9_span_66 rfl rfl ?_
    refine vv_aload_n 69 dX9_span_68 rfl rfl ?_
    obtain ⟨b3, g_b3, hf⟩ := bind_s hf
    have t_b3 := (ldA_spec g_b3).2
    refine gf_RX9_69 72 dX9_span_69 rfl t_a0 (ldA_spec g_b3).1 ?_
    refine vv_iload 74 dX9_span_72 rfl rfl ?_
    obtain ⟨r4, g_r4, hf⟩ := bind_s hf
    refine vv_lald 75 dX9_span_74 rfl t_b3 g_r4 ?_
    obtain ⟨q5, g_q5, hf⟩ := bind_s hf
    refine vv_callS 78 (st := [.int x6]) (As := [.long r4]) (stk2 := [.int q5, .int x6]) (cl2 := 0) (sl2 := 0) dX9_span_75 rfl lk_RX9_355 w_1507 ⟨(Nat.le_of_ble_eq_true rfl), (Nat.le_of_ble_eq_true rfl)⟩ rfl rfl ⟨(Nat.le_of_ble_eq_true rfl), (Nat.le_of_ble_eq_true rfl)⟩ rfl (Nat.le_of_ble_eq_true rfl) rfl rfl rfl rfl (c_X9_isNumber g_q5) ?_
    refine vv_if_eq 85 81 dX9_span_78 rfl (by decide) (fun c6 => ?_) (fun c6 => ?_)
    · rw [if_pos c6] at hf
      refine vv_iconst 86 (v := 1) dX9_span_85 rfl (by decide) ?_
      exact VV.lle (v_X9_span_86 t_a0 k57 hk57 hf) (lle_s (lle_s (lle_s (lle_s (lle_s (lle_s (lle_n (lle_s (lle_s (lle_s lle_nil))))))))))
    · rw [if_neg c6] at hf
      refine vv_iconst 82 (v := 0) dX9_span_81 rfl (by decide) ?_
      refine vv_goto 86 dX9_span_82 (by decide) ?_
      exact VV.lle (v_X9_span_86 t_a0 k57 hk57 hf) (lle_s (lle_s (lle_s (lle_s (lle_s (lle_s (lle_n (lle_s (lle_s (lle_s lle_nil))))))))))

theorem v_X9_span_57 {w : Wo} {K : Kn} {a0 : Nat} {x1 : Int32} {x2 : Int32} {x3 : Int32} {x4 : Int32} {q : (Int32 × Mem)} (t_a0 : K a0 = some (.inl 8)) : ∀ (n : Nat) (m : Mem) (x5 : Int32) (x6 : Int32) (x7 : Int32) (x8 : Int32) (x9 : Int32), f_X9_span_57 K a0 x1 x2 x3 x4 n m x5 x6 x7 x8 x9 = some q → VV w RX9 cX9_span 10 (some .int) rm_X9_span false (QM w K (some (.int q.1)) q.2 0 0) K 57 [some (.ref a0), none, none, none, some (.int x4), some (.int x5), some (.int x6), some (.int x7), some (.int x8), some (.int x9)] [] 0 0 m := by
  intro n
  induction n with
  | zero => intro m x5 x6 x7 x8 x9 hf; cases hf
  | succ n ih => intro m x5 x6 x7 x8 x9 hf; exact v_X9_span_57B (a0 := a0) (x1 := x1) (x2 := x2) (x3 := x3) (x4 := x4) t_a0 (f_X9_span_57 K a0 x1 x2 x3 x4 n) ih hf

set_option maxHeartbeats 4000000 in
theorem v_X9_span_0 {w : Wo} {K : Kn} {a0 : Nat} {x1 : Int32} {x2 : Int32} {x3 : Int32} {x4 : Int32} {q : (Int32 × Mem)} (t_a0 : K a0 = some (.inl 8)) {m : Mem} (hf : f_X9_span K a0 x1 x2 x3 x4 m = some q) : VV w RX9 cX9_span 10 (some .int) rm_X9_span false (QM w K (some (.int q.1)) q.2 0 0) K 0 [some (.ref a0), some (.int x1), some (.int x2), some (.int x3), some (.int x4), none, none, none, none, none] [] 0 0 m := by
  unfold f_X9_span at hf
  refine vv_aload_n 1 dX9_span_0 rfl rfl ?_
  refine vv_iload_n 2 dX9_span_1 rfl rfl ?_
  refine vv_iload_n 3 dX9_span_2 rfl rfl ?_
  refine vv_iload_n 4 dX9_span_3 rfl rfl ?_
  obtain ⟨q1, g_q1, hf⟩ := bind_s hf
  refine vv_callV 7 (st := []) (As := [.int x1, .int x2, .int x3]) (stk2 := [.int q1]) (cl2 := 0) (sl2 := 0) dX9_span_4 rfl lk_RX9_343 w_1496 w_56 rfl t_a0 ⟨(Nat.le_of_ble_eq_true rfl), (Nat.le_of_ble_eq_true rfl)⟩ rfl rfl ⟨(Nat.le_of_ble_eq_true rfl), (Nat.le_of_ble_eq_true rfl)⟩ rfl (Nat.le_of_ble_eq_true rfl) rfl rfl rfl rfl (c_X9_isSpan t_a0 g_q1) ?_
  refine vv_if_eq 23 10 dX9_span_7 rfl (by decide) (fun c2 => ?_) (fun c2 => ?_)
  · rw [if_pos c2] at hf
    refine vv_bipush 25 (v := (-2)) dX9_span_23 rfl (by decide) ?_
    obtain rfl := Option.some.inj hf
    exact vv_iret dX9_span_25 rfl
  · rw [if_neg c2] at hf
    refine vv_iload 12 dX9_span_10 rfl rfl ?_
    refine vv_i2l 13 dX9_span_12 rfl ?_
    refine vv_lconst 14 (v := 0) dX9_span_13 rfl (by decide) ?_
    refine vv_ldc2 17 (v := 6) dX9_span_14 rfl w_1326 ?_
    obtain ⟨q3, g_q3, hf⟩ := bind_s hf
    refine vv_callS 20 (st := []) (As := [.long ((x4).toInt64), .long (0 : Int64), .long (6 : Int64)]) (stk2 := [.int q3]) (cl2 := 0) (sl2 := 0) dX9_span_17 rfl lk_RX9_83 w_1206 ⟨(Nat.le_of_ble_eq_true rfl), (Nat.le_of_ble_eq_true rfl)⟩ rfl rfl ⟨(Nat.le_of_ble_eq_true rfl), (Nat.le_of_ble_eq_true rfl)⟩ rfl (Nat.le_of_ble_eq_true rfl) rfl rfl rfl rfl (c_X9_in g_q3) ?_
    refine vv_if_ne 26 23 dX9_span_20 rfl (by decide) (fun c4 => ?_) (fun c4 => ?_)
    · rw [if_pos c4] at hf
      refine vv_bipush 25 (v := (-2)) dX9_span_23 rfl (by decide) ?_
      obtain rfl := Option.some.inj hf
      exact vv_iret dX9_span_25 rfl
    · rw [if_neg c4] at hf
      refine vv_aload_n 27 dX9_span_26 rfl rfl ?_
      refine vv_iload_n 28 dX9_span_27 rfl rfl ?_
      refine vv_iload_n 29 dX9_span_28 rfl rfl ?_
      refine vv_iload_n 30 dX9_span_29 rfl rfl ?_
      obtain ⟨q5, g_q5, hf⟩ := bind_s hf
      refine vv_callV 33 (st := []) (As := [.int x1, .int x2, .int x3]) (stk2 := [.int q5.1]) (cl2 := 0) (sl2 := 0) dX9_span_30 rfl lk_RX9_347 w_1500 w_57 rfl t_a0 ⟨(Nat.le_of_ble_eq_true rfl), (Nat.le_of_ble_eq_true rfl)⟩ rfl rfl ⟨(Nat.le_of_ble_eq_true rfl), (Nat.le_of_ble_eq_true rfl)⟩ rfl (Nat.le_of_ble_eq_true rfl) rfl rfl rfl rfl (c_X9_opened t_a0 g_q5) ?_
      obtain ⟨z6, e_z6, hf⟩ := bd_s hf
      refine vv_istoreE (q := 35) (v := z6) (L' := [some (.ref a0), some (.int x1), some (.int x2), some (.int x3), some (.int x4), some (.int z6), none, none, none, none]) e_z6 dX9_span_33 rfl (Nat.le_of_ble_eq_true rfl) rfl ?_
      refine vv_aload_n 36 dX9_span_35 rfl rfl ?_
      refine vv_iload_n 37 dX9_span_36 rfl rfl ?_
      refine vv_iload_n 38 dX9_span_37 rfl rfl ?_
      refine vv_iload_n 39 dX9_span_38 rfl rfl ?_
      obtain ⟨q7, g_q7, hf⟩ := bind_s hf
      refine vv_callV 42 (st := []) (As := [.int x1, .int x2, .int x3]) (stk2 := []) (cl2 := 0) (sl2 := 0) dX9_span_39 rfl lk_RX9_351 w_1504 w_58 rfl t_a0 ⟨(Nat.le_of_ble_eq_true rfl), (Nat.le_of_ble_eq_true rfl)⟩ rfl rfl ⟨(Nat.le_of_ble_eq_true rfl), (Nat.le_of_ble_eq_true rfl)⟩ rfl (Nat.le_of_ble_eq_true rfl) rfl rfl rfl rfl (c_X9_laysSpan t_a0 g_q7) ?_
      refine vv_iconst 43 (v := 0) dX9_span_42 rfl (by decide) ?_
      refine vv_istore 45 (L' := [some (.ref a0), some (.int x1), some (.int x2), some (.int x3), some (.int x4), some (.int z6), some (.int (0 : Int32)), none, none, none]) dX9_span_43 rfl (Nat.le_of_ble_eq_true rfl) rfl ?_
      refine vv_iconst 46 (v := 0) dX9_span_45 rfl (by decide) ?_
      refine vv_istore 48 (L' := [some (.ref a0), some (.int x1), some (.int x2), some (.int x3), some (.int x4), some (.int z6), some (.int (0 : Int32)), some (.int (0 : Int32)), none, none]) dX9_span_46 rfl (Nat.le_of_ble_eq_true rfl) rfl ?_
      refine vv_iconst 49 (v := 0) dX9_span_48 rfl (by decide) ?_
      refine vv_istore 51 (L' := [some (.ref a0), some (.int x1), some (.int x2), some (.int x3), some (.int x4), some (.int z6), some (.int (0 : Int32)), some (.int (0 : Int32)), some (.int (0 : Int32)), none]) dX9_span_49 rfl (Nat.le_of_ble_eq_true rfl) rfl ?_
      refine vv_aload_n 52 dX9_span_51 rfl rfl ?_
      refine gf_RX9_337 55 dX9_span_52 rfl t_a0 ?_
      obtain ⟨z8, e_z8, hf⟩ := bd_s hf
      refine vv_istoreE (q := 57) (v := z8) (L' := [some (.ref a0), some (.int x1), some (.int x2), some (.int x3), some (.int x4), some (.int z6), some (.int (0 : Int32)), some (.int (0 : Int32)), some (.int (0 : Int32)), some (.int z8)]) e_z8 dX9_span_55 rfl (Nat.le_of_ble_eq_true rfl) rfl ?_
      exact VV.lle (v_X9_span_57 t_a0 FU _ _ _ _ _ _ hf) (lle_s (lle_n (lle_n (lle_n (lle_s (lle_s (lle_s (lle_s (lle_s (lle_s lle_nil))))))))))

theorem c_X9_span {w : Wo} {K : Kn} {a0 : Nat} {x1 : Int32} {x2 : Int32} {x3 : Int32} {x4 : Int32} {q : (Int32 × Mem)} {m : Mem} (t_a0 : K a0 = some (.inl 8)) (hf : F_X9_span K m a0 x1 x2 x3 x4 = some q) : MM w K K yX9_span cX9_span 10 (some .int) rm_X9_span [.ref a0, .int x1, .int x2, .int x3, .int x4] m (some (.int q.1)) q.2 0 0 :=
  mm_of (ini := false) (n := 5) (plainFor_of_name (by decide)) rfl (fun h => by first | rfl | cases h) (Nat.le_of_ble_eq_true rfl) rfl (v_X9_span_0 t_a0 hf)
