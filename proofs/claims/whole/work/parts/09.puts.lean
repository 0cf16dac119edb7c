/-! ===== puts, named stores, arraycopy, switches, doubles ===== -/
theorem fv_putI {m : Mem} {a k ci : Nat} {x : Int32} (h : tyOf ci k = .int ∨ tyOf ci k = .boolean) (j : Nat) : fv (sI m a k x) ci a j = updV (fv m ci a) k (.int x) j := by
  by_cases hj : j = k
  · subst hj
    unfold fv
    rcases h with h | h <;> rw [h] <;> simp [vlF, gI, sI, updV]
  · have e : gI (sI m a k x) a j = gI m a j := by simp [gI, sI, hj]
    simp only [updV, hj, if_false]
    unfold fv vlF
    rw [e]; rfl
theorem fv_putJ {m : Mem} {a k ci : Nat} {x : Int64} (h : tyOf ci k = .long) (j : Nat) : fv (sJ m a k x) ci a j = updV (fv m ci a) k (.long x) j := by
  by_cases hj : j = k
  · subst hj
    unfold fv
    rw [h]; simp [vlF, gJ, sJ, updV]
  · have e : gJ (sJ m a k x) a j = gJ m a j := by simp [gJ, sJ, hj]
    simp only [updV, hj, if_false]
    unfold fv vlF
    rw [e]; rfl
def isRf (t : FieldType) : Bool := match t with
  | .object _ => true
  | .array _ => true
  | _ => false
theorem fv_putR {m : Mem} {a k ci b : Nat} (h : isRf (tyOf ci k) = true) (j : Nat) : fv (sR m a k (some b)) ci a j = updV (fv m ci a) k (.ref b) j := by
  by_cases hj : j = k
  · subst hj
    unfold fv
    cases ht : tyOf ci j <;> rw [ht] at h <;> simp [isRf] at h <;> simp [vlF, gR, sR, updV, va_rf]
  · have e : gR (sR m a k (some b)) a j = gR m a j := by simp [gR, sR, hj]
    simp only [updV, hj, if_false]
    unfold fv vlF
    rw [e]; rfl
def acpI (K : Kn) (m : Mem) (a : Nat) (sp : Int32) (b : Nat) (dp n : Int32) : Option Mem := if (¬ sp < 0 ∧ ¬ dp < 0 ∧ ¬ n < 0) ∧ sp.toNatClampNeg + n.toNatClampNeg ≤ lenK K a ∧ dp.toNatClampNeg + n.toNatClampNeg ≤ lenK K b then some (cpI m a b sp.toNatClampNeg dp.toNatClampNeg n.toNatClampNeg) else none
/-- doubles: the machine's NaN may be any -/
theorem alike_refl (x : UInt64) : alike64 x x = true := by simp [alike64]
theorem tab_out {x : Int32} {n : Nat} (hn : n < 1000) (h : ∀ k : Nat, k ≤ n → ¬ x = Int32.ofNat k) : x.toInt < 0 ∨ (n : Int) < x.toInt := by
  rcases Int.lt_or_le x.toInt 0 with h0 | h0
  · exact Or.inl h0
  rcases Int.lt_or_le (n : Int) x.toInt with h1 | h1
  · exact Or.inr h1
  exfalso
  refine h x.toInt.toNat (by omega) ?_
  apply Int32.toInt_inj.mp
  have e := nI_toInt (n := x.toInt.toNat) (by omega)
  unfold nI at e
  rw [e]
  omega

section VP
variable {w : Wo} {own : String} {cc : ByteArray} {nL : Nat} {ret : Option FieldType} {rm : Room} {ini : Bool} {Q : Qk} {K : Kn} {pc : Nat} {L : List (Option Value)} {st : List Value} {cl sl : Nat} {m : Mem}
theorem vv_putI (q : Nat) {x : Int32} {m' : Mem} {idx ci k : Nat} {C : String} {T : u_T} {N a : Nat} (ty0 : Nat → FieldType) (hd : decode cc pc = .ok (.putfield idx, 3)) (hq : pc + 3 = q) (hc : vwCl[ci]? = some (C, T, N)) (hin0 : ∀ x ∈ u_ws C T N, x ∈ lw_gd) (hty : ∀ k, k < N → parseFieldDescriptor (T k).2.2.1 = some (ty0 k)) (hnm : ∀ a, a < N → ∀ b, b < N → a ≠ b → (T a).2.1 ≠ (T b).2.1) (hk0 : k < N) (hfin : (T k).2.2.2 = false) (hl : Cond.fieldLink own idx (T k).1 (T k).2.1 (T k).2.2.1 ∈ lw_gd) (htd : parseFieldDescriptor (T k).2.2.1 = some .int) (hto : tyOf ci k = .int) (ha : K a = some (.inl ci)) (hm : m' = sI m a k x) (kk : VV w own cc nL ret rm ini Q K q L st cl sl m') : VV w own cc nL ret rm ini Q K pc L (.int x :: .ref a :: st) cl sl m := by
  subst hm
  exact vv_putG (m' := sI m a k x) q ty0 hd hq hc hin0 hty hnm hk0 hfin hl htd (vp_nar_int x) rfl rfl (fv_putI (Or.inl hto)) (fun b hb => fv_sI hb) (fun b hb => av_sI hb) ha kk
theorem vv_putZ (q : Nat) {x : Int32} {m' : Mem} {idx ci k : Nat} {C : String} {T : u_T} {N a : Nat} (ty0 : Nat → FieldType) (hd : decode cc pc = .ok (.putfield idx, 3)) (hq : pc + 3 = q) (hc : vwCl[ci]? = some (C, T, N)) (hin0 : ∀ x ∈ u_ws C T N, x ∈ lw_gd) (hty : ∀ k, k < N → parseFieldDescriptor (T k).2.2.1 = some (ty0 k)) (hnm : ∀ a, a < N → ∀ b, b < N → a ≠ b → (T a).2.1 ≠ (T b).2.1) (hk0 : k < N) (hfin : (T k).2.2.2 = false) (hl : Cond.fieldLink own idx (T k).1 (T k).2.1 (T k).2.2.1 ∈ lw_gd) (htd : parseFieldDescriptor (T k).2.2.1 = some .boolean) (hto : tyOf ci k = .boolean) (ha : K a = some (.inl ci)) (hz : x = 0 ∨ x = 1) (hm : m' = sI m a k x) (kk : VV w own cc nL ret rm ini Q K q L st cl sl m') : VV w own cc nL ret rm ini Q K pc L (.int x :: .ref a :: st) cl sl m := by
  subst hm
  exact vv_putG (m' := sI m a k x) q ty0 hd hq hc hin0 hty hnm hk0 hfin hl htd (narrow_bz hz) (by rcases hz with rfl | rfl <;> decide) rfl (fv_putI (Or.inr hto)) (fun b hb => fv_sI hb) (fun b hb => av_sI hb) ha kk
theorem vv_putJ (q : Nat) {x : Int64} {m' : Mem} {idx ci k : Nat} {C : String} {T : u_T} {N a : Nat} (ty0 : Nat → FieldType) (hd : decode cc pc = .ok (.putfield idx, 3)) (hq : pc + 3 = q) (hc : vwCl[ci]? = some (C, T, N)) (hin0 : ∀ x ∈ u_ws C T N, x ∈ lw_gd) (hty : ∀ k, k < N → parseFieldDescriptor (T k).2.2.1 = some (ty0 k)) (hnm : ∀ a, a < N → ∀ b, b < N → a ≠ b → (T a).2.1 ≠ (T b).2.1) (hk0 : k < N) (hfin : (T k).2.2.2 = false) (hl : Cond.fieldLink own idx (T k).1 (T k).2.1 (T k).2.2.1 ∈ lw_gd) (htd : parseFieldDescriptor (T k).2.2.1 = some .long) (hto : tyOf ci k = .long) (ha : K a = some (.inl ci)) (hm : m' = sJ m a k x) (kk : VV w own cc nL ret rm ini Q K q L st cl sl m') : VV w own cc nL ret rm ini Q K pc L (.long x :: .ref a :: st) cl sl m := by
  subst hm
  exact vv_putG (m' := sJ m a k x) q ty0 hd hq hc hin0 hty hnm hk0 hfin hl htd rfl rfl rfl (fv_putJ hto) (fun b hb => fv_sJ hb) (fun b hb => av_sJ hb) ha kk
theorem vv_putR (q : Nat) {b : Nat} {m' : Mem} {ty : FieldType} {idx ci k : Nat} {C : String} {T : u_T} {N a : Nat} (ty0 : Nat → FieldType) (hd : decode cc pc = .ok (.putfield idx, 3)) (hq : pc + 3 = q) (hc : vwCl[ci]? = some (C, T, N)) (hin0 : ∀ x ∈ u_ws C T N, x ∈ lw_gd) (hty : ∀ k, k < N → parseFieldDescriptor (T k).2.2.1 = some (ty0 k)) (hnm : ∀ a, a < N → ∀ b, b < N → a ≠ b → (T a).2.1 ≠ (T b).2.1) (hk0 : k < N) (hfin : (T k).2.2.2 = false) (hl : Cond.fieldLink own idx (T k).1 (T k).2.1 (T k).2.2.1 ∈ lw_gd) (htd : parseFieldDescriptor (T k).2.2.1 = some ty) (hto : tyOf ci k = ty) (hir : isRf ty = true) (ha : K a = some (.inl ci)) (hm : m' = sR m a k (some b)) (kk : VV w own cc nL ret rm ini Q K q L st cl sl m') : VV w own cc nL ret rm ini Q K pc L (.ref b :: .ref a :: st) cl sl m := by
  subst hm
  subst hto
  exact vv_putG (m' := sR m a k (some b)) q ty0 hd hq hc hin0 hty hnm hk0 hfin hl htd (by cases ht : tyOf ci k <;> rw [ht] at hir <;> simp [isRf] at hir <;> rfl) (by cases ht : tyOf ci k <;> rw [ht] at hir <;> simp [isRf] at hir <;> rfl) rfl (fv_putR hir) (fun b hb => fv_sR hb) (fun b hb => av_sR hb) ha kk
theorem vv_putIF (q : Nat) {x : Int32} {m' : Mem} {idx ci k : Nat} {C : String} {T : u_T} {N a : Nat} (ty0 : Nat → FieldType) (hd : decode cc pc = .ok (.putfield idx, 3)) (hq : pc + 3 = q) (hc : vwCl[ci]? = some (C, T, N)) (hin0 : ∀ x ∈ u_ws C T N, x ∈ lw_gd) (hty : ∀ k, k < N → parseFieldDescriptor (T k).2.2.1 = some (ty0 k)) (hnm : ∀ a, a < N → ∀ b, b < N → a ≠ b → (T a).2.1 ≠ (T b).2.1) (hk0 : k < N) (hfin : (T k).2.2.2 = true) (hini : ini = true) (hdecl : (T k).1 = own) (hl : Cond.fieldLink own idx (T k).1 (T k).2.1 (T k).2.2.1 ∈ lw_gd) (htd : parseFieldDescriptor (T k).2.2.1 = some .int) (hto : tyOf ci k = .int) (ha : K a = some (.inl ci)) (hm : m' = sI m a k x) (kk : VV w own cc nL ret rm ini Q K q L st cl sl m') : VV w own cc nL ret rm ini Q K pc L (.int x :: .ref a :: st) cl sl m := by
  subst hm
  exact vv_putGF (m' := sI m a k x) q ty0 hd hq hc hin0 hty hnm hk0 hfin hini hdecl hl htd (vp_nar_int x) rfl rfl (fv_putI (Or.inl hto)) (fun b hb => fv_sI hb) (fun b hb => av_sI hb) ha kk
theorem vv_putZF (q : Nat) {x : Int32} {m' : Mem} {idx ci k : Nat} {C : String} {T : u_T} {N a : Nat} (ty0 : Nat → FieldType) (hd : decode cc pc = .ok (.putfield idx, 3)) (hq : pc + 3 = q) (hc : vwCl[ci]? = some (C, T, N)) (hin0 : ∀ x ∈ u_ws C T N, x ∈ lw_gd) (hty : ∀ k, k < N → parseFieldDescriptor (T k).2.2.1 = some (ty0 k)) (hnm : ∀ a, a < N → ∀ b, b < N → a ≠ b → (T a).2.1 ≠ (T b).2.1) (hk0 : k < N) (hfin : (T k).2.2.2 = true) (hini : ini = true) (hdecl : (T k).1 = own) (hl : Cond.fieldLink own idx (T k).1 (T k).2.1 (T k).2.2.1 ∈ lw_gd) (htd : parseFieldDescriptor (T k).2.2.1 = some .boolean) (hto : tyOf ci k = .boolean) (ha : K a = some (.inl ci)) (hz : x = 0 ∨ x = 1) (hm : m' = sI m a k x) (kk : VV w own cc nL ret rm ini Q K q L st cl sl m') : VV w own cc nL ret rm ini Q K pc L (.int x :: .ref a :: st) cl sl m := by
  subst hm
  exact vv_putGF (m' := sI m a k x) q ty0 hd hq hc hin0 hty hnm hk0 hfin hini hdecl hl htd (narrow_bz hz) (by rcases hz with rfl | rfl <;> decide) rfl (fv_putI (Or.inr hto)) (fun b hb => fv_sI hb) (fun b hb => av_sI hb) ha kk
theorem vv_putJF (q : Nat) {x : Int64} {m' : Mem} {idx ci k : Nat} {C : String} {T : u_T} {N a : Nat} (ty0 : Nat → FieldType) (hd : decode cc pc = .ok (.putfield idx, 3)) (hq : pc + 3 = q) (hc : vwCl[ci]? = some (C, T, N)) (hin0 : ∀ x ∈ u_ws C T N, x ∈ lw_gd) (hty : ∀ k, k < N → parseFieldDescriptor (T k).2.2.1 = some (ty0 k)) (hnm : ∀ a, a < N → ∀ b, b < N → a ≠ b → (T a).2.1 ≠ (T b).2.1) (hk0 : k < N) (hfin : (T k).2.2.2 = true) (hini : ini = true) (hdecl : (T k).1 = own) (hl : Cond.fieldLink own idx (T k).1 (T k).2.1 (T k).2.2.1 ∈ lw_gd) (htd : parseFieldDescriptor (T k).2.2.1 = some .long) (hto : tyOf ci k = .long) (ha : K a = some (.inl ci)) (hm : m' = sJ m a k x) (kk : VV w own cc nL ret rm ini Q K q L st cl sl m') : VV w own cc nL ret rm ini Q K pc L (.long x :: .ref a :: st) cl sl m := by
  subst hm
  exact vv_putGF (m' := sJ m a k x) q ty0 hd hq hc hin0 hty hnm hk0 hfin hini hdecl hl htd rfl rfl rfl (fv_putJ hto) (fun b hb => fv_sJ hb) (fun b hb => av_sJ hb) ha kk
theorem vv_putRF (q : Nat) {b : Nat} {m' : Mem} {ty : FieldType} {idx ci k : Nat} {C : String} {T : u_T} {N a : Nat} (ty0 : Nat → FieldType) (hd : decode cc pc = .ok (.putfield idx, 3)) (hq : pc + 3 = q) (hc : vwCl[ci]? = some (C, T, N)) (hin0 : ∀ x ∈ u_ws C T N, x ∈ lw_gd) (hty : ∀ k, k < N → parseFieldDescriptor (T k).2.2.1 = some (ty0 k)) (hnm : ∀ a, a < N → ∀ b, b < N → a ≠ b → (T a).2.1 ≠ (T b).2.1) (hk0 : k < N) (hfin : (T k).2.2.2 = true) (hini : ini = true) (hdecl : (T k).1 = own) (hl : Cond.fieldLink own idx (T k).1 (T k).2.1 (T k).2.2.1 ∈ lw_gd) (htd : parseFieldDescriptor (T k).2.2.1 = some ty) (hto : tyOf ci k = ty) (hir : isRf ty = true) (ha : K a = some (.inl ci)) (hm : m' = sR m a k (some b)) (kk : VV w own cc nL ret rm ini Q K q L st cl sl m') : VV w own cc nL ret rm ini Q K pc L (.ref b :: .ref a :: st) cl sl m := by
  subst hm
  subst hto
  exact vv_putGF (m' := sR m a k (some b)) q ty0 hd hq hc hin0 hty hnm hk0 hfin hini hdecl hl htd (by cases ht : tyOf ci k <;> rw [ht] at hir <;> simp [isRf] at hir <;> rfl) (by cases ht : tyOf ci k <;> rw [ht] at hir <;> simp [isRf] at hir <;> rfl) rfl (fv_putR hir) (fun b hb => fv_sR hb) (fun b hb => av_sR hb) ha kk
theorem vv_istore_nE (q : Nat) {k : Fin 4} {x v : Int32} {L' : List (Option Value)} (hv : v = x) (hd : decode cc pc = .ok (.istore_n k, 1)) (hq : pc + 1 = q) (hn : (k : Nat) < nL) (hl : st1L L (k : Nat) (.int v) = L') (kk : VV w own cc nL ret rm ini Q K q L' st cl sl m) : VV w own cc nL ret rm ini Q K pc L (.int x :: st) cl sl m := by
  subst hv
  exact vv_istore_n q hd hq hn hl kk
theorem vv_istoreE (q : Nat) {k : Nat} {x v : Int32} {L' : List (Option Value)} (hv : v = x) (hd : decode cc pc = .ok (.istore k, 2)) (hq : pc + 2 = q) (hn : k < nL) (hl : st1L L k (.int v) = L') (kk : VV w own cc nL ret rm ini Q K q L' st cl sl m) : VV w own cc nL ret rm ini Q K pc L (.int x :: st) cl sl m := by
  subst hv
  exact vv_istore q hd hq hn hl kk
theorem vv_lstore_nE (q : Nat) {k : Fin 4} {x v : Int64} {L' : List (Option Value)} (hv : v = x) (hd : decode cc pc = .ok (.lstore_n k, 1)) (hq : pc + 1 = q) (hn : (k : Nat) + 1 < nL) (hl : st2L L (k : Nat) (.long v) = L') (kk : VV w own cc nL ret rm ini Q K q L' st cl sl m) : VV w own cc nL ret rm ini Q K pc L (.long x :: st) cl sl m := by
  subst hv
  exact vv_lstore_n q hd hq hn hl kk
theorem vv_lstoreE (q : Nat) {k : Nat} {x v : Int64} {L' : List (Option Value)} (hv : v = x) (hd : decode cc pc = .ok (.lstore k, 2)) (hq : pc + 2 = q) (hn : k + 1 < nL) (hl : st2L L k (.long v) = L') (kk : VV w own cc nL ret rm ini Q K q L' st cl sl m) : VV w own cc nL ret rm ini Q K pc L (.long x :: st) cl sl m := by
  subst hv
  exact vv_lstore q hd hq hn hl kk
theorem vv_iincE (q : Nat) {i : Nat} {n : Int} {x c v : Int32} {L' : List (Option Value)} (hv : v = x + c) (hd : decode cc pc = .ok (.iinc i n, 3)) (hq : pc + 3 = q) (hg : L[i]? = some (some (.int x))) (hc : Int32.ofInt n = c) (hn : i < nL) (hl : st1L L i (.int v) = L') (kk : VV w own cc nL ret rm ini Q K q L' st cl sl m) : VV w own cc nL ret rm ini Q K pc L st cl sl m := by
  subst hv
  subst hc
  exact vv_iinc q hd hq hg rfl hn hl kk
theorem vv_tabK (t : Nat) {dflt lo hi : Int} {offs : Array Int} {len : Nat} {x k : Int32} {off : Int} (hxk : x = k) (hd : decode cc pc = .ok (.tableswitch dflt lo hi offs, len)) (h1 : ¬ k.toInt < lo) (h2 : ¬ hi < k.toInt) (ho : offs[(k.toInt - lo).toNat]? = some off) (ht : (pc : Int) + off = (t : Int)) (kk : VV w own cc nL ret rm ini Q K t L st cl sl m) : VV w own cc nL ret rm ini Q K pc L (.int x :: st) cl sl m := by
  subst hxk
  exact vv_tabIn t hd h1 h2 ho ht kk
theorem vv_copy (q : Nat) {idx a b : Nat} {sp dp n : Int32} {m' : Mem} (hd : decode cc pc = .ok (.invokestatic idx, 3)) (hq : pc + 3 = q) (hl : Cond.methodLink own idx arraycopyName ∈ lw_gd) (hna : Cond.native arraycopyName ∈ lw_gd) (hst : Cond.static arraycopyName ∈ lw_gd) (hi : Cond.initialized "java/lang/System" ∈ lw_gd) (ha : K a = some (.inr (0, lenK K a))) (hb1 : K b = some (.inr (0, lenK K b))) (hf : 1 ≤ rm.frames) (hlo : (st.map fun v => v.category).sum + (nativeFrameWords "java/lang/System" "arraycopy" 5 + 11) ≤ rm.locals) (hv : acpI K m a sp b dp n = some m') (kk : VV w own cc nL ret rm ini Q K q L st cl sl m') : VV w own cc nL ret rm ini Q K pc L (.int n :: .int dp :: .ref b :: .int sp :: .ref a :: st) cl sl m := by
  intro p l ev s mth args below meth cd H locs ls d0 hx hb hml hr hk hown hts hin hK hd0 hbs hM hS hL
  subst hq
  obtain ⟨⟨⟨h1, h2, h3⟩, h4, h5⟩, rfl⟩ := op_if hv
  have hts' := dr_words hts d0
  have hown' : (s.setDrawn d0).vm.findClass own = some mth.cls := hown
  have nn : ∀ z : Int32, ¬ z < 0 → z.toInt = (z.toNatClampNeg : Int) := by
    intro z hz
    have hz0 : (0 : Int) ≤ z.toInt := by
      have := Int32.not_lt.mp hz
      simpa using Int32.le_iff_toInt_le.mp this
    show z.toInt = ((z.toInt.toNat : Nat) : Int)
    omega
  intro Ts hT XX
  have hKs := (sd_KK (d := d0) hK).1
  have hc0 : H[a]? = some (vp_cell (w.2.1 0) (lenK K a, .inl (gI m a))) := (hM.2.2.2 a _ ha).2
  have hc1 : H[b]? = some (vp_cell (w.2.1 0) (lenK K b, .inl (gI m b))) := (hM.2.2.2 b _ hb1).2
  obtain ⟨-, k0, hk0, cm0, hkk0⟩ := (hKs.2 0 _ rfl).1 (lenK K a) (fun j => .int (gI m a j))
  obtain ⟨vm', X', step⟩ := XX.arraycopy hx hown' (hts' _ hl) (hts' _ hna) (hts' _ hst) (hts' _ hi) (src := a) (dst := b) (cs := vp_cell (w.2.1 0) (lenK K a, .inl (gI m a))) (cd := vp_cell (w.2.1 0) (lenK K b, .inl (gI m b))) (srcPos := sp) (destPos := dp) (n := n) (by rw [hT]; exact hc0) (by rw [hT]; exact hc1)
    (fun _ h => by cases h) (fun _ h => by cases h) (fun h => by cases h) (fun h => by cases h) hk0 hk0 hkk0 hkk0 (by simp [refKind]) h1 h2 h3
    (by rw [nn sp h1, nn n h3]; show ¬ _ > ((arrV (w.2.1 0) (lenK K a) (fun j => .int (gI m a j))).slots.size : Int); rw [arrV_size]; omega)
    (by rw [nn dp h2, nn n h3]; show ¬ _ > ((arrV (w.2.1 0) (lenK K b) (fun j => .int (gI m b j))).slots.size : Int); rw [arrV_size]; omega)
    (fun vm₁ _ i hi => by
      have e : (vp_cell (w.2.1 0) (lenK K a, .inl (gI m a))).slots.getD (sp.toNatClampNeg + i) .null = .int (gI m a (sp.toNatClampNeg + i)) := by
        show (arrV (w.2.1 0) (lenK K a) (fun j => .int (gI m a j))).slots.getD _ _ = _
        rw [Array.getD_eq_getD_getElem?, arrV_read _ _ (by omega)]
        rfl
      refine ⟨?_, ?_⟩
      · rw [e]; rfl
      · rw [e]
        exact trivial)
    (g := F0 mth pc ls (.int n :: .int dp :: .ref b :: .int sp :: .ref a :: st)) rfl (hL.1.trans hml.symm) (rest := st) rfl (by rw [hb]; exact hd) hf (by show 2 * 0 + _ + _ ≤ _; omega)
  have e1 : copied (vp_cell (w.2.1 0) (lenK K a, .inl (gI m a))) (vp_cell (w.2.1 0) (lenK K b, .inl (gI m b))) sp dp n = vp_cell (w.2.1 0) (lenK K b, .inl (va_cpy (gI m a) (gI m b) sp.toNatClampNeg dp.toNatClampNeg n.toNatClampNeg)) := va_copied (fun z => .int z) _ _ _ _ h4
  rw [e1] at X' step
  have hlb : b < H.size := (Array.getElem?_eq_some_iff.mp hc1).1
  have hheap : ((Ts.setVm vm').setCell b (vp_cell (w.2.1 0) (lenK K b, .inl (va_cpy (gI m a) (gI m b) sp.toNatClampNeg dp.toNatClampNeg n.toNatClampNeg)))).heap = H.setIfInBounds b (vp_cell (w.2.1 0) (lenK K b, .inl (va_cpy (gI m a) (gI m b) sp.toNatClampNeg dp.toNatClampNeg n.toNatClampNeg))) := by rw [← hT]; rfl
  have oq : ∀ q : Nat, q ≠ b → (H.setIfInBounds b (vp_cell (w.2.1 0) (lenK K b, .inl (va_cpy (gI m a) (gI m b) sp.toNatClampNeg dp.toNatClampNeg n.toNatClampNeg))))[q]? = H[q]? := fun q hq => by simp [Array.getElem?_setIfInBounds, Ne.symm hq]
  have hM2 : HM w K (cpI m a b sp.toNatClampNeg dp.toNatClampNeg n.toNatClampNeg) (H.setIfInBounds b (vp_cell (w.2.1 0) (lenK K b, .inl (va_cpy (gI m a) (gI m b) sp.toNatClampNeg dp.toNatClampNeg n.toNatClampNeg)))) := by
    refine hM.put hb1 (by simp) oq rfl (fun q hq => fv_cpI hq) (fun q hq => av_cpI hq) ?_
    show (H.setIfInBounds b _)[b]? = some (vp_cell _ (_, .inl (gI (cpI m a b sp.toNatClampNeg dp.toNatClampNeg n.toNatClampNeg) b)))
    have e2 : gI (cpI m a b sp.toNatClampNeg dp.toNatClampNeg n.toNatClampNeg) b = va_cpy (gI m a) (gI m b) sp.toNatClampNeg dp.toNatClampNeg n.toNatClampNeg := by funext j; simp [gI, cpI]; rfl
    rw [e2]
    simp [Array.getElem?_setIfInBounds, hlb]
  have hba := (hM.2.2.2 b _ hb1).1
  have hheap2 := hheap
  obtain ⟨t, a1, b1⟩ := kk p l ev s mth args below meth cd (H.setIfInBounds b (vp_cell (w.2.1 0) (lenK K b, .inl (va_cpy (gI m a) (gI m b) sp.toNatClampNeg dp.toNatClampNeg n.toNatClampNeg)))) _ ls d0 hx hb hml hr hk hown hts hin hK hd0 hbs hM2 ⟨by simp; exact hS.1, fun q g1 g2 => by
      rw [oq q (fun e => g2 (by rw [e]; exact hba))]
      exact hS.2.1 q g1 g2, fun q hq => by
      rcases List.mem_append.mp hq with h | h
      · exact hS.2.2 q h
      · obtain ⟨z, -, hz⟩ := List.mem_map.mp h
        rw [← hz]
        exact hba⟩ hL _ hheap X'
  exact ⟨t, step t a1, b1⟩
end VP
