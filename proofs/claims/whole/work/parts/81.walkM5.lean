/-! ===== the walks ===== -/
abbrev rm_X9_taped : Room := { frames := 0, cells := 0, slots := 0, locals := 0 }
set_option maxHeartbeats 4000000 in
theorem v_X9_taped_0 {w : Wo} {K : Kn} {a0 : Nat} {q : Int32} {m : Mem} (t_a0 : K a0 = some (.inl 8)) (hf : f_X9_taped K m a0 = some q) : VV w RX9 cX9_taped 1 (some .int) rm_X9_taped false (QM w K (some (.int q)) m 0 0) K 0 [some (.ref a0)] [] 0 0 m := by
  unfold f_X9_taped at hf
  refine vv_aload_n 1 dX9_taped_0 rfl rfl ?_
  refine gf_RX9_401 4 dX9_taped_1 rfl t_a0 ?_
  obtain rfl := Option.some.inj hf
  exact vv_iret dX9_taped_4 rfl

theorem c_X9_taped {w : Wo} {K : Kn} {a0 : Nat} {q : Int32} {m : Mem} (t_a0 : K a0 = some (.inl 8)) (hf : F_X9_taped K m a0 = some q) : MM w K K yX9_taped cX9_taped 1 (some .int) rm_X9_taped [.ref a0] m (some (.int q)) m 0 0 :=
  mm_of (ini := false) (n := 0) (plainFor_of_name (by decide)) rfl (fun h => by first | rfl | cases h) (Nat.le_of_ble_eq_true rfl) rfl (v_X9_taped_0 t_a0 hf)
