/-! ===== making cells, with names; the law's end ===== -/
theorem upK_oldE {K K2 : Kn} {a : Nat} {k : Kd} (e : K2 = upK K a k) {q : Nat} {c : Kd} (h : K q = some c) : K2 q = some c := by rw [e]; exact upK_old h
theorem arrK {K : Kn} {a t n : Nat} (h : K a = some (.inr (t, n))) : K a = some (.inr (t, lenK K a)) := by rw [lenK_of h]; exact h
def QL (w : Wo) : Qk := fun below args s t => s.heap.size ≤ w.2.2.1.size → lw_Z below args s t
section VN
variable {w : Wo} {own : String} {cc : ByteArray} {nL : Nat} {ret : Option FieldType} {rm : Room} {ini : Bool} {Q : Qk} {K : Kn} {pc : Nat} {L : List (Option Value)} {st : List Value} {cl sl : Nat} {m : Mem}
theorem vv_newIE (q N : Nat) {n : Int32} {b cl2 sl2 : Nat} {K2 : Kn} {m2 : Mem} (eb : b = szm m) (eK : K2 = upK K b (.inr (0, N))) (em : m2 = bump m) (hd : decode cc pc = .ok (.newarray .int, 2)) (hq : pc + 2 = q) (harr : Cond.arrayClass (newarray.typeOf .int) ∈ lw_gd) (hn : ¬ n < 0) (hN : n.toNatClampNeg = N) (hby : N * componentBytes (newarray.typeOf .int) ≤ 536870912) (hc1 : cl + 1 ≤ rm.cells) (hs1 : sl + N ≤ rm.slots) (hc2 : cl + 1 = cl2) (hs2 : sl + N = sl2) (kk : K2 b = some (.inr (0, N)) → VV w own cc nL ret rm ini Q K2 q L (.ref b :: st) cl2 sl2 m2) : VV w own cc nL ret rm ini Q K pc L (.int n :: st) cl sl m := by
  subst eb eK em hc2 hs2
  exact vv_fresh (fun hfr => vv_newI q N hd hq harr hn hN hby hc1 hs1 (kk (upK_new hfr)))
theorem vv_newJE (q N : Nat) {n : Int32} {b cl2 sl2 : Nat} {K2 : Kn} {m2 : Mem} (eb : b = szm m) (eK : K2 = upK K b (.inr (1, N))) (em : m2 = bump m) (hd : decode cc pc = .ok (.newarray .long, 2)) (hq : pc + 2 = q) (harr : Cond.arrayClass (newarray.typeOf .long) ∈ lw_gd) (hn : ¬ n < 0) (hN : n.toNatClampNeg = N) (hby : N * componentBytes (newarray.typeOf .long) ≤ 536870912) (hc1 : cl + 1 ≤ rm.cells) (hs1 : sl + N ≤ rm.slots) (hc2 : cl + 1 = cl2) (hs2 : sl + N = sl2) (kk : K2 b = some (.inr (1, N)) → VV w own cc nL ret rm ini Q K2 q L (.ref b :: st) cl2 sl2 m2) : VV w own cc nL ret rm ini Q K pc L (.int n :: st) cl sl m := by
  subst eb eK em hc2 hs2
  exact vv_fresh (fun hfr => vv_newJ q N hd hq harr hn hN hby hc1 hs1 (kk (upK_new hfr)))
theorem vv_newZE (q N : Nat) {n : Int32} {b cl2 sl2 : Nat} {K2 : Kn} {m2 : Mem} (eb : b = szm m) (eK : K2 = upK K b (.inr (2, N))) (em : m2 = bump m) (hd : decode cc pc = .ok (.newarray .boolean, 2)) (hq : pc + 2 = q) (harr : Cond.arrayClass (newarray.typeOf .boolean) ∈ lw_gd) (hn : ¬ n < 0) (hN : n.toNatClampNeg = N) (hby : N * componentBytes (newarray.typeOf .boolean) ≤ 536870912) (hc1 : cl + 1 ≤ rm.cells) (hs1 : sl + N ≤ rm.slots) (hc2 : cl + 1 = cl2) (hs2 : sl + N = sl2) (kk : K2 b = some (.inr (2, N)) → VV w own cc nL ret rm ini Q K2 q L (.ref b :: st) cl2 sl2 m2) : VV w own cc nL ret rm ini Q K pc L (.int n :: st) cl sl m := by
  subst eb eK em hc2 hs2
  exact vv_fresh (fun hfr => vv_newZ q N hd hq harr hn hN hby hc1 hs1 (kk (upK_new hfr)))
theorem vv_anew3E (q N : Nat) {idx : Nat} {n : Int32} {b cl2 sl2 : Nat} {K2 : Kn} {m2 : Mem} (eb : b = szm m) (eK : K2 = upK K b (.inr (3, N))) (em : m2 = bump m) (hd : decode cc pc = .ok (.anewarray idx, 3)) (hq : pc + 3 = q) (hl : Cond.classLink own idx "SeriesPress$Series" ∈ lw_gd) (hn : ¬ n < 0) (hN : n.toNatClampNeg = N) (hby : N * 4 ≤ 536870912) (hc1 : cl + 1 ≤ rm.cells) (hs1 : sl + N ≤ rm.slots) (hc2 : cl + 1 = cl2) (hs2 : sl + N = sl2) (kk : K2 b = some (.inr (3, N)) → VV w own cc nL ret rm ini Q K2 q L (.ref b :: st) cl2 sl2 m2) : VV w own cc nL ret rm ini Q K pc L (.int n :: st) cl sl m := by
  subst eb eK em hc2 hs2
  exact vv_fresh (fun hfr => vv_anew3 q N hd hq hl hn hN hby hc1 hs1 (kk (upK_new hfr)))
theorem vv_anew4E (q N : Nat) {idx : Nat} {n : Int32} {b cl2 sl2 : Nat} {K2 : Kn} {m2 : Mem} (eb : b = szm m) (eK : K2 = upK K b (.inr (4, N))) (em : m2 = bump m) (hd : decode cc pc = .ok (.anewarray idx, 3)) (hq : pc + 3 = q) (hl : Cond.classLink own idx "SeriesPress$Block" ∈ lw_gd) (hn : ¬ n < 0) (hN : n.toNatClampNeg = N) (hby : N * 4 ≤ 536870912) (hc1 : cl + 1 ≤ rm.cells) (hs1 : sl + N ≤ rm.slots) (hc2 : cl + 1 = cl2) (hs2 : sl + N = sl2) (kk : K2 b = some (.inr (4, N)) → VV w own cc nL ret rm ini Q K2 q L (.ref b :: st) cl2 sl2 m2) : VV w own cc nL ret rm ini Q K pc L (.int n :: st) cl sl m := by
  subst eb eK em hc2 hs2
  exact vv_fresh (fun hfr => vv_anew4 q N hd hq hl hn hN hby hc1 hs1 (kk (upK_new hfr)))
theorem vv_newE (q : Nat) {idx ci : Nat} {C : String} {T : u_T} {N : Nat} {b cl2 sl2 : Nat} {K2 : Kn} {m2 : Mem} (eb : b = szm m) (eK : K2 = upK K b (.inl ci)) (em : m2 = bump m) (hd : decode cc pc = .ok (.new idx, 3)) (hq : pc + 3 = q) (hc : vwCl[ci]? = some (C, T, N)) (hin0 : ∀ x ∈ u_ws C T N, x ∈ lw_gd) (hty : ∀ k, k < N → parseFieldDescriptor (T k).2.2.1 = some (tyOf ci k)) (hnf : ∀ k, k < N → tyOf ci k ≠ .float ∧ tyOf ci k ≠ .double) (hl : Cond.classLink own idx C ∈ lw_gd) (hi : Cond.instantiable C N ∈ lw_gd) (hi2 : Cond.initialized C ∈ lw_gd) (hc1 : cl + 1 ≤ rm.cells) (hs1 : sl + N ≤ rm.slots) (hc2 : cl + 1 = cl2) (hs2 : sl + N = sl2) (kk : K2 b = some (.inl ci) → VV w own cc nL ret rm ini Q K2 q L (.ref b :: st) cl2 sl2 m2) : VV w own cc nL ret rm ini Q K pc L st cl sl m := by
  subst eb eK em hc2 hs2
  exact vv_fresh (fun hfr => vv_new q hd hq hc hin0 hty hnf hl hi hi2 hc1 hs1 (kk (upK_new hfr)))
theorem vv_lawret (hc1 : cl ≤ 600000) (hs1 : sl ≤ 7302250) (hd : decode cL_law pc = .ok (.ireturn, 1)) : VV w own cL_law nL (some .boolean) room_1 ini (QL w) K pc L [.int 1] cl sl m := by
  intro p l ev s mth args below meth cd H locs ls d0 hx hb hml hr hk hown hts hin hK hd0 hbs hM hS hL
  by_cases hsz : s.heap.size ≤ w.2.2.1.size
  · have hloc : ∀ q ∈ locs, (s.setDrawn d0).heap.size ≤ q.base := fun q hq => Nat.le_trans hsz (hS.2.2 q hq)
    have k1 : W p l ev room_1 (s.setDrawn d0) mth args below meth cd H [] 600000 7302250 (lw_Z below args s) (F0 mth pc ls [.int 1]) := by
      intro T hT XX
      obtain ⟨fs, hret, hrun, hended, hW, hframe⟩ := XX.leave (v := some (.int 1)) (hlocks := hk) (fun h => by rw [hr] at h; cases h)
      have hmeth' : T.vm.method? mth = some meth := XX.method'
      refine ⟨T.setFrames fs, ?_, .returned (some (.int 1)), hrun, hended, rfl, lw_closed hd0 ⟨_, rfl⟩ hW hframe⟩
      jvm_step XX.here [XX.here.top, hx, hb, hd, hmeth', hr, narrow_b1]
      (try refine ⟨rfl, ?_⟩); (try refine ⟨rfl, ?_⟩)
      first | (intro acts; rw [hret _ acts rfl rfl rfl]) | rw [hret _ _ rfl rfl rfl]
      exact Steps.refl _
    intro T hT XX
    obtain ⟨t, a1, b1⟩ := W.widen hc1 hs1 (va_forget hloc (W.widen (Nat.le_refl _) (Nat.le_refl _) k1)) T hT XX
    exact ⟨t, a1, fun _ => b1⟩
  · intro T hT XX
    exact ⟨_, Steps.refl _, fun h => absurd h hsz⟩
end VN
