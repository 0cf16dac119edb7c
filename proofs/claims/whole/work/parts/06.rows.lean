/-! ===== locals ===== -/
def iushr (x y : Int32) : Int32 := (x.toUInt32 >>> (y.toUInt32 &&& Int32.toUInt32 31)).toInt32
def lushr (x : Int64) (y : Int32) : Int64 := (x.toUInt64 >>> (y.toInt64.toUInt64 &&& Int64.toUInt64 63)).toInt64
def lshl (x : Int64) (y : Int32) : Int64 := x <<< (y.toInt64 &&& 63)
def lshr (x : Int64) (y : Int32) : Int64 := x >>> (y.toInt64 &&& 63)
def clr (o : Option Value) : Option Value := match o with
  | some (.long _) => none
  | some (.double _) => none
  | o => o
theorem clr_s {o : Option Value} {v : Value} (h : clr o = some v) : o = some v ∧ ¬ v.category = 2 := by
  cases o with
  | none => cases h
  | some x => cases x <;> simp [clr] at h <;> subst h <;> simp [Value.category]
/-- the locals behind a store of one place, of two -/
def pcl (L : List (Option Value)) (i : Nat) : List (Option Value) := match i with
  | 0 => L
  | j + 1 => L.modify j clr
def st1L (L : List (Option Value)) (i : Nat) (v : Value) : List (Option Value) := (pcl L i).set i (some v)
def st2L (L : List (Option Value)) (i : Nat) (v : Value) : List (Option Value) := ((pcl L i).set i (some v)).set (i + 1) none
theorem setq {L : List (Option Value)} {i k : Nat} {o : Option Value} {x : Value} (h : (L.set i o)[k]? = some (some x)) : (i = k ∧ o = some x) ∨ (i ≠ k ∧ L[k]? = some (some x)) := by
  rw [List.getElem?_set] at h
  by_cases hi : i = k
  · rw [if_pos hi] at h
    by_cases hl : i < L.length
    · rw [if_pos hl] at h; exact Or.inl ⟨hi, Option.some.inj h⟩
    · rw [if_neg hl] at h; cases h
  · rw [if_neg hi] at h; exact Or.inr ⟨hi, h⟩
def prs (L : List (Option Value)) : List (Nat × Value) := (List.range L.length).filterMap (fun k => match L[k]? with
  | some (some v) => some (k, v)
  | _ => none)
theorem prs_mem {L : List (Option Value)} {k : Nat} {v : Value} (h : L[k]? = some (some v)) : (k, v) ∈ prs L := by
  refine List.mem_filterMap.mpr ⟨k, List.mem_range.mpr (List.getElem?_eq_some_iff.mp h).1, ?_⟩
  simp [h]
theorem mem_prs {L : List (Option Value)} {k : Nat} {v : Value} (h : (k, v) ∈ prs L) : L[k]? = some (some v) := by
  obtain ⟨j, -, hj⟩ := List.mem_filterMap.mp h
  revert hj
  cases hL : L[j]? with
  | none => intro hj; cases hj
  | some o =>
    cases o with
    | none => intro hj; cases hj
    | some x =>
      intro hj
      simp only [Option.some.injEq, Prod.mk.injEq] at hj
      obtain ⟨rfl, rfl⟩ := hj
      exact hL
theorem lvh_prs {ls : Array Slot} {nL : Nat} {L : List (Option Value)} (h : lvh ls nL L) : lv_has ls nL (prs L) := ⟨h.1, h.2.1, fun q hq => h.2.2 q.1 q.2 (mem_prs hq)⟩
theorem modc {L : List (Option Value)} {i k : Nat} {v : Value} (h : (pcl L i)[k]? = some (some v)) : L[k]? = some (some v) ∧ ¬ (k + 1 = i ∧ v.category = 2) := by
  cases i with
  | zero => exact ⟨h, fun q => by omega⟩
  | succ j =>
    simp only [pcl, List.getElem?_modify] at h
    by_cases hk : j = k
    · subst hk
      simp only [if_true] at h
      cases hL : L[j]? with
      | none => rw [hL] at h; cases h
      | some o =>
        rw [hL] at h
        have h2 : clr o = some v := by simpa using h
        obtain ⟨rfl, h4⟩ := clr_s h2
        exact ⟨rfl, fun q => h4 q.2⟩
    · simp only [hk, if_false] at h
      exact ⟨by simpa using h, fun q => hk (by omega)⟩
theorem lvh_st1 {ls : Array Slot} {nL : Nat} {L : List (Option Value)} {i : Nat} {v : Value} (h : lv_has ls nL ((i, v) :: (prs L).filter (fun q => !(q.1 == i) && !(q.1 + 1 == i && q.2.category == 2)))) : lvh ls nL (st1L L i v) := by
  refine ⟨h.1, h.2.1, fun k x hk => ?_⟩
  rcases setq hk with ⟨rfl, h1⟩ | ⟨hi, h1⟩
  · cases h1; exact h.2.2 (i, v) List.mem_cons_self
  · obtain ⟨h1, h2⟩ := modc h1
    refine h.2.2 (k, x) (List.mem_cons_of_mem _ (List.mem_filter.mpr ⟨prs_mem h1, ?_⟩))
    simp only [Bool.and_eq_true, Bool.not_eq_true', beq_eq_false_iff_ne, Bool.and_eq_false_iff, ne_eq]
    exact ⟨fun q => hi q.symm, by
      by_cases h3 : k + 1 = i
      · exact Or.inr (fun q => h2 ⟨h3, q⟩)
      · exact Or.inl h3⟩
theorem lvh_st2 {ls : Array Slot} {nL : Nat} {L : List (Option Value)} {i : Nat} {v : Value} (h : lv_has ls nL ((i, v) :: (prs L).filter (fun q => !(q.1 == i) && (!(q.1 == i + 1) && !(q.1 + 1 == i && q.2.category == 2))))) : lvh ls nL (st2L L i v) := by
  refine ⟨h.1, h.2.1, fun k x hk => ?_⟩
  rcases setq hk with ⟨-, h1⟩ | ⟨hi1, h1⟩
  · cases h1
  rcases setq h1 with ⟨hik, h5⟩ | ⟨hi, h5⟩
  · subst hik; cases h5; exact h.2.2 (i, v) List.mem_cons_self
  · obtain ⟨h1, h2⟩ := modc h5
    refine h.2.2 (k, x) (List.mem_cons_of_mem _ (List.mem_filter.mpr ⟨prs_mem h1, ?_⟩))
    simp only [Bool.and_eq_true, Bool.not_eq_true', beq_eq_false_iff_ne, Bool.and_eq_false_iff, ne_eq]
    exact ⟨fun q => hi q.symm, fun q => hi1 q.symm, by
      by_cases h3 : k + 1 = i
      · exact Or.inr (fun q => h2 ⟨h3, q⟩)
      · exact Or.inl h3⟩
/-! ===== rows of the walk ===== -/
section VR
variable {w : Wo} {own : String} {cc : ByteArray} {nL : Nat} {ret : Option FieldType} {rm : Room} {ini : Bool} {Q : Qk} {K : Kn} {pc : Nat} {L : List (Option Value)} {st : List Value} {cl sl : Nat} {m : Mem}
theorem VV.le {L' : List (Option Value)} (h : Lle L' L) (kk : VV w own cc nL ret rm ini Q K pc L' st cl sl m) : VV w own cc nL ret rm ini Q K pc L st cl sl m := by
  intro p l ev s mth args below meth cd H locs ls d0 hx hb hml hr hk hown hts hin hK hd0 hbs hM hS hL
  exact kk p l ev s mth args below meth cd H locs ls d0 hx hb hml hr hk hown hts hin hK hd0 hbs hM hS ⟨hL.1, hL.2.1, fun k v hk => hL.2.2 k v (h k v hk)⟩
theorem VV.lle {L' : List (Option Value)} (kk : VV w own cc nL ret rm ini Q K pc L' st cl sl m) (h : Lle L' L) : VV w own cc nL ret rm ini Q K pc L st cl sl m := kk.le h
theorem vv_iconst (q : Nat) {n : Int} {v : Int32} (hd : decode cc pc = .ok (.iconst n, 1)) (hq : pc + 1 = q) (hv : Int32.ofInt n = v) (kk : VV w own cc nL ret rm ini Q K q L (.int v :: st) cl sl m) : VV w own cc nL ret rm ini Q K pc L st cl sl m := by
  intro p l ev s mth args below meth cd H locs ls d0 hx hb hml hr hk hown hts hin hK hd0 hbs hM hS hL
  subst hq
  exact lv_iconst hx hb hd hv (kk p l ev s mth args below meth cd H locs ls d0 hx hb hml hr hk hown hts hin hK hd0 hbs hM hS hL)
theorem vv_bipush (q : Nat) {n : Int} {v : Int32} (hd : decode cc pc = .ok (.bipush n, 2)) (hq : pc + 2 = q) (hv : (Int8.ofInt n).toInt32 = v) (kk : VV w own cc nL ret rm ini Q K q L (.int v :: st) cl sl m) : VV w own cc nL ret rm ini Q K pc L st cl sl m := by
  intro p l ev s mth args below meth cd H locs ls d0 hx hb hml hr hk hown hts hin hK hd0 hbs hM hS hL
  subst hq
  exact lv_bipush hx hb hd hv (kk p l ev s mth args below meth cd H locs ls d0 hx hb hml hr hk hown hts hin hK hd0 hbs hM hS hL)
theorem vv_sipush (q : Nat) {n : Int} {v : Int32} (hd : decode cc pc = .ok (.sipush n, 3)) (hq : pc + 3 = q) (hv : (Int16.ofInt n).toInt32 = v) (kk : VV w own cc nL ret rm ini Q K q L (.int v :: st) cl sl m) : VV w own cc nL ret rm ini Q K pc L st cl sl m := by
  intro p l ev s mth args below meth cd H locs ls d0 hx hb hml hr hk hown hts hin hK hd0 hbs hM hS hL
  subst hq
  exact lv_sipush hx hb hd hv (kk p l ev s mth args below meth cd H locs ls d0 hx hb hml hr hk hown hts hin hK hd0 hbs hM hS hL)
theorem vv_lconst (q : Nat) {n : Fin 2} {v : Int64} (hd : decode cc pc = .ok (.lconst n, 1)) (hq : pc + 1 = q) (hv : Int64.ofNat (n : Nat) = v) (kk : VV w own cc nL ret rm ini Q K q L (.long v :: st) cl sl m) : VV w own cc nL ret rm ini Q K pc L st cl sl m := by
  intro p l ev s mth args below meth cd H locs ls d0 hx hb hml hr hk hown hts hin hK hd0 hbs hM hS hL
  subst hq
  exact lv_lconst hx hb hd hv (kk p l ev s mth args below meth cd H locs ls d0 hx hb hml hr hk hown hts hin hK hd0 hbs hM hS hL)
theorem vv_dconst0 (q : Nat)  (hd : decode cc pc = .ok (.dconst 0, 1)) (hq : pc + 1 = q) (kk : VV w own cc nL ret rm ini Q K q L (.double FP.dconst0 :: st) cl sl m) : VV w own cc nL ret rm ini Q K pc L st cl sl m := by
  intro p l ev s mth args below meth cd H locs ls d0 hx hb hml hr hk hown hts hin hK hd0 hbs hM hS hL
  subst hq
  exact lv_dconst0 hx hb hd (kk p l ev s mth args below meth cd H locs ls d0 hx hb hml hr hk hown hts hin hK hd0 hbs hM hS hL)
theorem vv_ldcw (q : Nat) {idx : Nat} {v : Int32} (hd : decode cc pc = .ok (.ldc_w idx, 3)) (hq : pc + 3 = q) (hw : Cond.constant own idx v ∈ lw_gd) (kk : VV w own cc nL ret rm ini Q K q L (.int v :: st) cl sl m) : VV w own cc nL ret rm ini Q K pc L st cl sl m := by
  intro p l ev s mth args below meth cd H locs ls d0 hx hb hml hr hk hown hts hin hK hd0 hbs hM hS hL
  subst hq
  exact lv_ldcw hx hb hown (dr_words hts d0 _ hw) hd (kk p l ev s mth args below meth cd H locs ls d0 hx hb hml hr hk hown hts hin hK hd0 hbs hM hS hL)
theorem vv_ldc2 (q : Nat) {idx : Nat} {v : Int64} (hd : decode cc pc = .ok (.ldc2_w idx, 3)) (hq : pc + 3 = q) (hw : Cond.constantLong own idx v ∈ lw_gd) (kk : VV w own cc nL ret rm ini Q K q L (.long v :: st) cl sl m) : VV w own cc nL ret rm ini Q K pc L st cl sl m := by
  intro p l ev s mth args below meth cd H locs ls d0 hx hb hml hr hk hown hts hin hK hd0 hbs hM hS hL
  subst hq
  exact lv_ldc2 hx hb hown (dr_words hts d0 _ hw) hd (kk p l ev s mth args below meth cd H locs ls d0 hx hb hml hr hk hown hts hin hK hd0 hbs hM hS hL)
theorem vv_null (q : Nat)  (hd : decode cc pc = .ok (.aconst_null, 1)) (hq : pc + 1 = q) (kk : VV w own cc nL ret rm ini Q K q L (.null :: st) cl sl m) : VV w own cc nL ret rm ini Q K pc L st cl sl m := by
  intro p l ev s mth args below meth cd H locs ls d0 hx hb hml hr hk hown hts hin hK hd0 hbs hM hS hL
  subst hq
  exact lv_null hx hb hd (kk p l ev s mth args below meth cd H locs ls d0 hx hb hml hr hk hown hts hin hK hd0 hbs hM hS hL)
theorem vv_iload_n (q : Nat) {k : Fin 4} {x : Int32} (hd : decode cc pc = .ok (.iload_n k, 1)) (hq : pc + 1 = q) (hl : L[(k : Nat)]? = some (some (.int x))) (kk : VV w own cc nL ret rm ini Q K q L (.int x :: st) cl sl m) : VV w own cc nL ret rm ini Q K pc L st cl sl m := by
  intro p l ev s mth args below meth cd H locs ls d0 hx hb hml hr hk hown hts hin hK hd0 hbs hM hS hL
  subst hq
  exact lv_iload_n hx hb hd rfl (hL.2.2 _ _ hl) (kk p l ev s mth args below meth cd H locs ls d0 hx hb hml hr hk hown hts hin hK hd0 hbs hM hS hL)
theorem vv_iload (q : Nat) {k : Nat} {x : Int32} (hd : decode cc pc = .ok (.iload k, 2)) (hq : pc + 2 = q) (hl : L[k]? = some (some (.int x))) (kk : VV w own cc nL ret rm ini Q K q L (.int x :: st) cl sl m) : VV w own cc nL ret rm ini Q K pc L st cl sl m := by
  intro p l ev s mth args below meth cd H locs ls d0 hx hb hml hr hk hown hts hin hK hd0 hbs hM hS hL
  subst hq
  exact lv_iload hx hb hd (hL.2.2 _ _ hl) (kk p l ev s mth args below meth cd H locs ls d0 hx hb hml hr hk hown hts hin hK hd0 hbs hM hS hL)
theorem vv_lload_n (q : Nat) {k : Fin 4} {x : Int64} (hd : decode cc pc = .ok (.lload_n k, 1)) (hq : pc + 1 = q) (hl : L[(k : Nat)]? = some (some (.long x))) (kk : VV w own cc nL ret rm ini Q K q L (.long x :: st) cl sl m) : VV w own cc nL ret rm ini Q K pc L st cl sl m := by
  intro p l ev s mth args below meth cd H locs ls d0 hx hb hml hr hk hown hts hin hK hd0 hbs hM hS hL
  subst hq
  exact lv_lload_n hx hb hd rfl (hL.2.2 _ _ hl) (kk p l ev s mth args below meth cd H locs ls d0 hx hb hml hr hk hown hts hin hK hd0 hbs hM hS hL)
theorem vv_lload (q : Nat) {k : Nat} {x : Int64} (hd : decode cc pc = .ok (.lload k, 2)) (hq : pc + 2 = q) (hl : L[k]? = some (some (.long x))) (kk : VV w own cc nL ret rm ini Q K q L (.long x :: st) cl sl m) : VV w own cc nL ret rm ini Q K pc L st cl sl m := by
  intro p l ev s mth args below meth cd H locs ls d0 hx hb hml hr hk hown hts hin hK hd0 hbs hM hS hL
  subst hq
  exact lv_lload hx hb hd (hL.2.2 _ _ hl) (kk p l ev s mth args below meth cd H locs ls d0 hx hb hml hr hk hown hts hin hK hd0 hbs hM hS hL)
theorem vv_aload_n (q : Nat) {k : Fin 4} {x : Nat} (hd : decode cc pc = .ok (.aload_n k, 1)) (hq : pc + 1 = q) (hl : L[(k : Nat)]? = some (some (.ref x))) (kk : VV w own cc nL ret rm ini Q K q L (.ref x :: st) cl sl m) : VV w own cc nL ret rm ini Q K pc L st cl sl m := by
  intro p l ev s mth args below meth cd H locs ls d0 hx hb hml hr hk hown hts hin hK hd0 hbs hM hS hL
  subst hq
  exact lv_aload_n hx hb hd rfl (hL.2.2 _ _ hl) (kk p l ev s mth args below meth cd H locs ls d0 hx hb hml hr hk hown hts hin hK hd0 hbs hM hS hL)
theorem vv_aload (q : Nat) {k : Nat} {x : Nat} (hd : decode cc pc = .ok (.aload k, 2)) (hq : pc + 2 = q) (hl : L[k]? = some (some (.ref x))) (kk : VV w own cc nL ret rm ini Q K q L (.ref x :: st) cl sl m) : VV w own cc nL ret rm ini Q K pc L st cl sl m := by
  intro p l ev s mth args below meth cd H locs ls d0 hx hb hml hr hk hown hts hin hK hd0 hbs hM hS hL
  subst hq
  exact lv_aload hx hb hd (hL.2.2 _ _ hl) (kk p l ev s mth args below meth cd H locs ls d0 hx hb hml hr hk hown hts hin hK hd0 hbs hM hS hL)
theorem vv_dload_n (q : Nat) {k : Fin 4} {x : UInt64} (hd : decode cc pc = .ok (.dload_n k, 1)) (hq : pc + 1 = q) (hl : L[(k : Nat)]? = some (some (.double x))) (kk : VV w own cc nL ret rm ini Q K q L (.double x :: st) cl sl m) : VV w own cc nL ret rm ini Q K pc L st cl sl m := by
  intro p l ev s mth args below meth cd H locs ls d0 hx hb hml hr hk hown hts hin hK hd0 hbs hM hS hL
  subst hq
  exact lv_dload_n hx hb hd rfl (hL.2.2 _ _ hl) (kk p l ev s mth args below meth cd H locs ls d0 hx hb hml hr hk hown hts hin hK hd0 hbs hM hS hL)
theorem vv_dload (q : Nat) {k : Nat} {x : UInt64} (hd : decode cc pc = .ok (.dload k, 2)) (hq : pc + 2 = q) (hl : L[k]? = some (some (.double x))) (kk : VV w own cc nL ret rm ini Q K q L (.double x :: st) cl sl m) : VV w own cc nL ret rm ini Q K pc L st cl sl m := by
  intro p l ev s mth args below meth cd H locs ls d0 hx hb hml hr hk hown hts hin hK hd0 hbs hM hS hL
  subst hq
  exact lv_dload hx hb hd (hL.2.2 _ _ hl) (kk p l ev s mth args below meth cd H locs ls d0 hx hb hml hr hk hown hts hin hK hd0 hbs hM hS hL)
theorem vv_aload_nN (q : Nat) {k : Fin 4} (hd : decode cc pc = .ok (.aload_n k, 1)) (hq : pc + 1 = q) (hl : L[(k : Nat)]? = some (some .null)) (kk : VV w own cc nL ret rm ini Q K q L (.null :: st) cl sl m) : VV w own cc nL ret rm ini Q K pc L st cl sl m := by
  intro p l ev s mth args below meth cd H locs ls d0 hx hb hml hr hk hown hts hin hK hd0 hbs hM hS hL
  subst hq
  exact lv_aload_nN hx hb hd rfl (hL.2.2 _ _ hl) (kk p l ev s mth args below meth cd H locs ls d0 hx hb hml hr hk hown hts hin hK hd0 hbs hM hS hL)
theorem vv_aloadN (q : Nat) {k : Nat} (hd : decode cc pc = .ok (.aload k, 2)) (hq : pc + 2 = q) (hl : L[k]? = some (some .null)) (kk : VV w own cc nL ret rm ini Q K q L (.null :: st) cl sl m) : VV w own cc nL ret rm ini Q K pc L st cl sl m := by
  intro p l ev s mth args below meth cd H locs ls d0 hx hb hml hr hk hown hts hin hK hd0 hbs hM hS hL
  subst hq
  exact lv_aloadN hx hb hd (hL.2.2 _ _ hl) (kk p l ev s mth args below meth cd H locs ls d0 hx hb hml hr hk hown hts hin hK hd0 hbs hM hS hL)
theorem vv_iadd (q : Nat) {x y : Int32} (hd : decode cc pc = .ok (.iadd, 1)) (hq : pc + 1 = q) (kk : VV w own cc nL ret rm ini Q K q L (.int (x + y) :: st) cl sl m) : VV w own cc nL ret rm ini Q K pc L (.int y :: .int x :: st) cl sl m := by
  intro p l ev s mth args below meth cd H locs ls d0 hx hb hml hr hk hown hts hin hK hd0 hbs hM hS hL
  subst hq
  exact lv_iadd hx hb hd (kk p l ev s mth args below meth cd H locs ls d0 hx hb hml hr hk hown hts hin hK hd0 hbs hM hS hL)
theorem vv_isub (q : Nat) {x y : Int32} (hd : decode cc pc = .ok (.isub, 1)) (hq : pc + 1 = q) (kk : VV w own cc nL ret rm ini Q K q L (.int (x - y) :: st) cl sl m) : VV w own cc nL ret rm ini Q K pc L (.int y :: .int x :: st) cl sl m := by
  intro p l ev s mth args below meth cd H locs ls d0 hx hb hml hr hk hown hts hin hK hd0 hbs hM hS hL
  subst hq
  exact lv_isub hx hb hd (kk p l ev s mth args below meth cd H locs ls d0 hx hb hml hr hk hown hts hin hK hd0 hbs hM hS hL)
theorem vv_imul (q : Nat) {x y : Int32} (hd : decode cc pc = .ok (.imul, 1)) (hq : pc + 1 = q) (kk : VV w own cc nL ret rm ini Q K q L (.int (x * y) :: st) cl sl m) : VV w own cc nL ret rm ini Q K pc L (.int y :: .int x :: st) cl sl m := by
  intro p l ev s mth args below meth cd H locs ls d0 hx hb hml hr hk hown hts hin hK hd0 hbs hM hS hL
  subst hq
  exact lv_imul hx hb hd (kk p l ev s mth args below meth cd H locs ls d0 hx hb hml hr hk hown hts hin hK hd0 hbs hM hS hL)
theorem vv_iand (q : Nat) {x y : Int32} (hd : decode cc pc = .ok (.iand, 1)) (hq : pc + 1 = q) (kk : VV w own cc nL ret rm ini Q K q L (.int (x &&& y) :: st) cl sl m) : VV w own cc nL ret rm ini Q K pc L (.int y :: .int x :: st) cl sl m := by
  intro p l ev s mth args below meth cd H locs ls d0 hx hb hml hr hk hown hts hin hK hd0 hbs hM hS hL
  subst hq
  exact lv_iand hx hb hd (kk p l ev s mth args below meth cd H locs ls d0 hx hb hml hr hk hown hts hin hK hd0 hbs hM hS hL)
theorem vv_ior (q : Nat) {x y : Int32} (hd : decode cc pc = .ok (.ior, 1)) (hq : pc + 1 = q) (kk : VV w own cc nL ret rm ini Q K q L (.int (x ||| y) :: st) cl sl m) : VV w own cc nL ret rm ini Q K pc L (.int y :: .int x :: st) cl sl m := by
  intro p l ev s mth args below meth cd H locs ls d0 hx hb hml hr hk hown hts hin hK hd0 hbs hM hS hL
  subst hq
  exact lv_ior hx hb hd (kk p l ev s mth args below meth cd H locs ls d0 hx hb hml hr hk hown hts hin hK hd0 hbs hM hS hL)
theorem vv_ixor (q : Nat) {x y : Int32} (hd : decode cc pc = .ok (.ixor, 1)) (hq : pc + 1 = q) (kk : VV w own cc nL ret rm ini Q K q L (.int (x ^^^ y) :: st) cl sl m) : VV w own cc nL ret rm ini Q K pc L (.int y :: .int x :: st) cl sl m := by
  intro p l ev s mth args below meth cd H locs ls d0 hx hb hml hr hk hown hts hin hK hd0 hbs hM hS hL
  subst hq
  exact lv_ixor hx hb hd (kk p l ev s mth args below meth cd H locs ls d0 hx hb hml hr hk hown hts hin hK hd0 hbs hM hS hL)
theorem vv_ishl (q : Nat) {x y : Int32} (hd : decode cc pc = .ok (.ishl, 1)) (hq : pc + 1 = q) (kk : VV w own cc nL ret rm ini Q K q L (.int (x <<< (y &&& 31)) :: st) cl sl m) : VV w own cc nL ret rm ini Q K pc L (.int y :: .int x :: st) cl sl m := by
  intro p l ev s mth args below meth cd H locs ls d0 hx hb hml hr hk hown hts hin hK hd0 hbs hM hS hL
  subst hq
  exact lv_ishl hx hb hd (kk p l ev s mth args below meth cd H locs ls d0 hx hb hml hr hk hown hts hin hK hd0 hbs hM hS hL)
theorem vv_ishr (q : Nat) {x y : Int32} (hd : decode cc pc = .ok (.ishr, 1)) (hq : pc + 1 = q) (kk : VV w own cc nL ret rm ini Q K q L (.int (x >>> (y &&& 31)) :: st) cl sl m) : VV w own cc nL ret rm ini Q K pc L (.int y :: .int x :: st) cl sl m := by
  intro p l ev s mth args below meth cd H locs ls d0 hx hb hml hr hk hown hts hin hK hd0 hbs hM hS hL
  subst hq
  exact lv_ishr hx hb hd (kk p l ev s mth args below meth cd H locs ls d0 hx hb hml hr hk hown hts hin hK hd0 hbs hM hS hL)
theorem vv_idiv (q : Nat) {x y : Int32} (hd : decode cc pc = .ok (.idiv, 1)) (hq : pc + 1 = q) (hne : ¬ y = 0) (kk : VV w own cc nL ret rm ini Q K q L (.int (x / y) :: st) cl sl m) : VV w own cc nL ret rm ini Q K pc L (.int y :: .int x :: st) cl sl m := by
  intro p l ev s mth args below meth cd H locs ls d0 hx hb hml hr hk hown hts hin hK hd0 hbs hM hS hL
  subst hq
  exact lv_idiv hx hb hd hne (kk p l ev s mth args below meth cd H locs ls d0 hx hb hml hr hk hown hts hin hK hd0 hbs hM hS hL)
theorem vv_irem (q : Nat) {x y : Int32} (hd : decode cc pc = .ok (.irem, 1)) (hq : pc + 1 = q) (hne : ¬ y = 0) (kk : VV w own cc nL ret rm ini Q K q L (.int (x - x / y * y) :: st) cl sl m) : VV w own cc nL ret rm ini Q K pc L (.int y :: .int x :: st) cl sl m := by
  intro p l ev s mth args below meth cd H locs ls d0 hx hb hml hr hk hown hts hin hK hd0 hbs hM hS hL
  subst hq
  exact lv_irem hx hb hd hne (kk p l ev s mth args below meth cd H locs ls d0 hx hb hml hr hk hown hts hin hK hd0 hbs hM hS hL)
theorem vv_ldiv (q : Nat) {x y : Int64} (hd : decode cc pc = .ok (.ldiv, 1)) (hq : pc + 1 = q) (hne : ¬ y = 0) (kk : VV w own cc nL ret rm ini Q K q L (.long (x / y) :: st) cl sl m) : VV w own cc nL ret rm ini Q K pc L (.long y :: .long x :: st) cl sl m := by
  intro p l ev s mth args below meth cd H locs ls d0 hx hb hml hr hk hown hts hin hK hd0 hbs hM hS hL
  subst hq
  exact lv_ldiv hx hb hd hne (kk p l ev s mth args below meth cd H locs ls d0 hx hb hml hr hk hown hts hin hK hd0 hbs hM hS hL)
theorem vv_iushr (q : Nat) {x y : Int32} (hd : decode cc pc = .ok (.iushr, 1)) (hq : pc + 1 = q) (kk : VV w own cc nL ret rm ini Q K q L (.int (iushr x y) :: st) cl sl m) : VV w own cc nL ret rm ini Q K pc L (.int y :: .int x :: st) cl sl m := by
  intro p l ev s mth args below meth cd H locs ls d0 hx hb hml hr hk hown hts hin hK hd0 hbs hM hS hL
  subst hq
  exact lv_iushr hx hb hd rfl (kk p l ev s mth args below meth cd H locs ls d0 hx hb hml hr hk hown hts hin hK hd0 hbs hM hS hL)
theorem vv_ladd (q : Nat) {x y : Int64} (hd : decode cc pc = .ok (.ladd, 1)) (hq : pc + 1 = q) (kk : VV w own cc nL ret rm ini Q K q L (.long (x + y) :: st) cl sl m) : VV w own cc nL ret rm ini Q K pc L (.long y :: .long x :: st) cl sl m := by
  intro p l ev s mth args below meth cd H locs ls d0 hx hb hml hr hk hown hts hin hK hd0 hbs hM hS hL
  subst hq
  exact lv_ladd hx hb hd (kk p l ev s mth args below meth cd H locs ls d0 hx hb hml hr hk hown hts hin hK hd0 hbs hM hS hL)
theorem vv_lsub (q : Nat) {x y : Int64} (hd : decode cc pc = .ok (.lsub, 1)) (hq : pc + 1 = q) (kk : VV w own cc nL ret rm ini Q K q L (.long (x - y) :: st) cl sl m) : VV w own cc nL ret rm ini Q K pc L (.long y :: .long x :: st) cl sl m := by
  intro p l ev s mth args below meth cd H locs ls d0 hx hb hml hr hk hown hts hin hK hd0 hbs hM hS hL
  subst hq
  exact lv_lsub hx hb hd (kk p l ev s mth args below meth cd H locs ls d0 hx hb hml hr hk hown hts hin hK hd0 hbs hM hS hL)
theorem vv_lmul (q : Nat) {x y : Int64} (hd : decode cc pc = .ok (.lmul, 1)) (hq : pc + 1 = q) (kk : VV w own cc nL ret rm ini Q K q L (.long (x * y) :: st) cl sl m) : VV w own cc nL ret rm ini Q K pc L (.long y :: .long x :: st) cl sl m := by
  intro p l ev s mth args below meth cd H locs ls d0 hx hb hml hr hk hown hts hin hK hd0 hbs hM hS hL
  subst hq
  exact lv_lmul hx hb hd (kk p l ev s mth args below meth cd H locs ls d0 hx hb hml hr hk hown hts hin hK hd0 hbs hM hS hL)
theorem vv_land (q : Nat) {x y : Int64} (hd : decode cc pc = .ok (.land, 1)) (hq : pc + 1 = q) (kk : VV w own cc nL ret rm ini Q K q L (.long (x &&& y) :: st) cl sl m) : VV w own cc nL ret rm ini Q K pc L (.long y :: .long x :: st) cl sl m := by
  intro p l ev s mth args below meth cd H locs ls d0 hx hb hml hr hk hown hts hin hK hd0 hbs hM hS hL
  subst hq
  exact lv_land hx hb hd (kk p l ev s mth args below meth cd H locs ls d0 hx hb hml hr hk hown hts hin hK hd0 hbs hM hS hL)
theorem vv_lor (q : Nat) {x y : Int64} (hd : decode cc pc = .ok (.lor, 1)) (hq : pc + 1 = q) (kk : VV w own cc nL ret rm ini Q K q L (.long (x ||| y) :: st) cl sl m) : VV w own cc nL ret rm ini Q K pc L (.long y :: .long x :: st) cl sl m := by
  intro p l ev s mth args below meth cd H locs ls d0 hx hb hml hr hk hown hts hin hK hd0 hbs hM hS hL
  subst hq
  exact lv_lor hx hb hd (kk p l ev s mth args below meth cd H locs ls d0 hx hb hml hr hk hown hts hin hK hd0 hbs hM hS hL)
theorem vv_lxor (q : Nat) {x y : Int64} (hd : decode cc pc = .ok (.lxor, 1)) (hq : pc + 1 = q) (kk : VV w own cc nL ret rm ini Q K q L (.long (x ^^^ y) :: st) cl sl m) : VV w own cc nL ret rm ini Q K pc L (.long y :: .long x :: st) cl sl m := by
  intro p l ev s mth args below meth cd H locs ls d0 hx hb hml hr hk hown hts hin hK hd0 hbs hM hS hL
  subst hq
  exact lv_lxor hx hb hd (kk p l ev s mth args below meth cd H locs ls d0 hx hb hml hr hk hown hts hin hK hd0 hbs hM hS hL)
theorem vv_lneg (q : Nat) {x : Int64} (hd : decode cc pc = .ok (.lneg, 1)) (hq : pc + 1 = q) (kk : VV w own cc nL ret rm ini Q K q L (.long (-x) :: st) cl sl m) : VV w own cc nL ret rm ini Q K pc L (.long x :: st) cl sl m := by
  intro p l ev s mth args below meth cd H locs ls d0 hx hb hml hr hk hown hts hin hK hd0 hbs hM hS hL
  subst hq
  exact lv_lneg hx hb hd (kk p l ev s mth args below meth cd H locs ls d0 hx hb hml hr hk hown hts hin hK hd0 hbs hM hS hL)
theorem vv_lushr (q : Nat) {x : Int64} {y : Int32} (hd : decode cc pc = .ok (.lushr, 1)) (hq : pc + 1 = q) (kk : VV w own cc nL ret rm ini Q K q L (.long (lushr x y) :: st) cl sl m) : VV w own cc nL ret rm ini Q K pc L (.int y :: .long x :: st) cl sl m := by
  intro p l ev s mth args below meth cd H locs ls d0 hx hb hml hr hk hown hts hin hK hd0 hbs hM hS hL
  subst hq
  exact lv_lushr hx hb hd rfl (kk p l ev s mth args below meth cd H locs ls d0 hx hb hml hr hk hown hts hin hK hd0 hbs hM hS hL)
theorem vv_lshl (q : Nat) {x : Int64} {y : Int32} (hd : decode cc pc = .ok (.lshl, 1)) (hq : pc + 1 = q) (kk : VV w own cc nL ret rm ini Q K q L (.long (lshl x y) :: st) cl sl m) : VV w own cc nL ret rm ini Q K pc L (.int y :: .long x :: st) cl sl m := by
  intro p l ev s mth args below meth cd H locs ls d0 hx hb hml hr hk hown hts hin hK hd0 hbs hM hS hL
  subst hq
  exact lv_lshl hx hb hd rfl (kk p l ev s mth args below meth cd H locs ls d0 hx hb hml hr hk hown hts hin hK hd0 hbs hM hS hL)
theorem vv_lshr (q : Nat) {x : Int64} {y : Int32} (hd : decode cc pc = .ok (.lshr, 1)) (hq : pc + 1 = q) (kk : VV w own cc nL ret rm ini Q K q L (.long (lshr x y) :: st) cl sl m) : VV w own cc nL ret rm ini Q K pc L (.int y :: .long x :: st) cl sl m := by
  intro p l ev s mth args below meth cd H locs ls d0 hx hb hml hr hk hown hts hin hK hd0 hbs hM hS hL
  subst hq
  exact lv_lshr hx hb hd rfl (kk p l ev s mth args below meth cd H locs ls d0 hx hb hml hr hk hown hts hin hK hd0 hbs hM hS hL)
theorem vv_i2l (q : Nat) {x : Int32} (hd : decode cc pc = .ok (.i2l, 1)) (hq : pc + 1 = q) (kk : VV w own cc nL ret rm ini Q K q L (.long x.toInt64 :: st) cl sl m) : VV w own cc nL ret rm ini Q K pc L (.int x :: st) cl sl m := by
  intro p l ev s mth args below meth cd H locs ls d0 hx hb hml hr hk hown hts hin hK hd0 hbs hM hS hL
  subst hq
  exact lv_i2l hx hb hd rfl (kk p l ev s mth args below meth cd H locs ls d0 hx hb hml hr hk hown hts hin hK hd0 hbs hM hS hL)
theorem vv_l2i (q : Nat) {x : Int64} (hd : decode cc pc = .ok (.l2i, 1)) (hq : pc + 1 = q) (kk : VV w own cc nL ret rm ini Q K q L (.int x.toInt32 :: st) cl sl m) : VV w own cc nL ret rm ini Q K pc L (.long x :: st) cl sl m := by
  intro p l ev s mth args below meth cd H locs ls d0 hx hb hml hr hk hown hts hin hK hd0 hbs hM hS hL
  subst hq
  exact lv_l2i hx hb hd rfl (kk p l ev s mth args below meth cd H locs ls d0 hx hb hml hr hk hown hts hin hK hd0 hbs hM hS hL)
theorem vv_lcmp (q : Nat) {x y : Int64} (hd : decode cc pc = .ok (.lcmp, 1)) (hq : pc + 1 = q) (kk : VV w own cc nL ret rm ini Q K q L (.int (lg_cmp x y) :: st) cl sl m) : VV w own cc nL ret rm ini Q K pc L (.long y :: .long x :: st) cl sl m := by
  intro p l ev s mth args below meth cd H locs ls d0 hx hb hml hr hk hown hts hin hK hd0 hbs hM hS hL
  subst hq
  exact W.lcmp hx hb hd (kk p l ev s mth args below meth cd H locs ls d0 hx hb hml hr hk hown hts hin hK hd0 hbs hM hS hL)
theorem vv_dcmp (q : Nat) {x y : UInt64} {op : CmpOp} (hd : decode cc pc = .ok (.dcmp op, 1)) (hq : pc + 1 = q) (kk : VV w own cc nL ret rm ini Q K q L (.int (Op.cmpValue (FP.dcmp x y) op) :: st) cl sl m) : VV w own cc nL ret rm ini Q K pc L (.double y :: .double x :: st) cl sl m := by
  intro p l ev s mth args below meth cd H locs ls d0 hx hb hml hr hk hown hts hin hK hd0 hbs hM hS hL
  subst hq
  exact lv_dcmp hx hb hd (kk p l ev s mth args below meth cd H locs ls d0 hx hb hml hr hk hown hts hin hK hd0 hbs hM hS hL)
theorem vv_l2d (q : Nat) {x : Int64} (hd : decode cc pc = .ok (.l2d, 1)) (hq : pc + 1 = q) (kk : VV w own cc nL ret rm ini Q K q L (.double (FP.l2d x) :: st) cl sl m) : VV w own cc nL ret rm ini Q K pc L (.long x :: st) cl sl m := by
  intro p l ev s mth args below meth cd H locs ls d0 hx hb hml hr hk hown hts hin hK hd0 hbs hM hS hL
  subst hq
  exact lv_l2d hx hb hd (kk p l ev s mth args below meth cd H locs ls d0 hx hb hml hr hk hown hts hin hK hd0 hbs hM hS hL)
theorem vv_dup (q : Nat) {x : Value} (hd : decode cc pc = .ok (.dup, 1)) (hq : pc + 1 = q) (hx1 : x.category = 1) (kk : VV w own cc nL ret rm ini Q K q L (x :: x :: st) cl sl m) : VV w own cc nL ret rm ini Q K pc L (x :: st) cl sl m := by
  intro p l ev s mth args below meth cd H locs ls d0 hx hb hml hr hk hown hts hin hK hd0 hbs hM hS hL
  subst hq
  exact lv_dup hx hb hd hx1 (kk p l ev s mth args below meth cd H locs ls d0 hx hb hml hr hk hown hts hin hK hd0 hbs hM hS hL)
theorem vv_pop (q : Nat) {x : Value} (hd : decode cc pc = .ok (.pop, 1)) (hq : pc + 1 = q) (hx1 : x.category = 1) (kk : VV w own cc nL ret rm ini Q K q L st cl sl m) : VV w own cc nL ret rm ini Q K pc L (x :: st) cl sl m := by
  intro p l ev s mth args below meth cd H locs ls d0 hx hb hml hr hk hown hts hin hK hd0 hbs hM hS hL
  subst hq
  exact lv_pop hx hb hd hx1 (kk p l ev s mth args below meth cd H locs ls d0 hx hb hml hr hk hown hts hin hK hd0 hbs hM hS hL)
theorem vv_dup2 (q : Nat) {x y : Value} (hd : decode cc pc = .ok (.dup2, 1)) (hq : pc + 1 = q) (hx1 : x.category = 1) (hy1 : y.category = 1) (kk : VV w own cc nL ret rm ini Q K q L (x :: y :: x :: y :: st) cl sl m) : VV w own cc nL ret rm ini Q K pc L (x :: y :: st) cl sl m := by
  intro p l ev s mth args below meth cd H locs ls d0 hx hb hml hr hk hown hts hin hK hd0 hbs hM hS hL
  subst hq
  exact lv_dup2_11 hx hb hd hx1 hy1 (kk p l ev s mth args below meth cd H locs ls d0 hx hb hml hr hk hown hts hin hK hd0 hbs hM hS hL)
theorem vv_if_eq (t q : Nat) {x : Int32} {off : Int} (hd : decode cc pc = .ok (.ifCond .eq off, 3)) (hq : pc + 3 = q) (ht : (pc : Int) + off = (t : Int)) (kt : x = 0 → VV w own cc nL ret rm ini Q K t L st cl sl m) (kf : ¬ (x = 0) → VV w own cc nL ret rm ini Q K q L st cl sl m) : VV w own cc nL ret rm ini Q K pc L (.int x :: st) cl sl m := by
  intro p l ev s mth args below meth cd H locs ls d0 hx hb hml hr hk hown hts hin hK hd0 hbs hM hS hL
  subst hq
  exact lv_if_eq hx hb hd ht (fun h => kt h p l ev s mth args below meth cd H locs ls d0 hx hb hml hr hk hown hts hin hK hd0 hbs hM hS hL) (fun h => kf h p l ev s mth args below meth cd H locs ls d0 hx hb hml hr hk hown hts hin hK hd0 hbs hM hS hL)
theorem vv_icmp_eq (t q : Nat) {x y : Int32} {off : Int} (hd : decode cc pc = .ok (.if_icmp .eq off, 3)) (hq : pc + 3 = q) (ht : (pc : Int) + off = (t : Int)) (kt : x = y → VV w own cc nL ret rm ini Q K t L st cl sl m) (kf : ¬ (x = y) → VV w own cc nL ret rm ini Q K q L st cl sl m) : VV w own cc nL ret rm ini Q K pc L (.int y :: .int x :: st) cl sl m := by
  intro p l ev s mth args below meth cd H locs ls d0 hx hb hml hr hk hown hts hin hK hd0 hbs hM hS hL
  subst hq
  exact lv_icmp_eq hx hb hd ht (fun h => kt h p l ev s mth args below meth cd H locs ls d0 hx hb hml hr hk hown hts hin hK hd0 hbs hM hS hL) (fun h => kf h p l ev s mth args below meth cd H locs ls d0 hx hb hml hr hk hown hts hin hK hd0 hbs hM hS hL)
theorem vv_if_lt (t q : Nat) {x : Int32} {off : Int} (hd : decode cc pc = .ok (.ifCond .lt off, 3)) (hq : pc + 3 = q) (ht : (pc : Int) + off = (t : Int)) (kt : x < 0 → VV w own cc nL ret rm ini Q K t L st cl sl m) (kf : ¬ (x < 0) → VV w own cc nL ret rm ini Q K q L st cl sl m) : VV w own cc nL ret rm ini Q K pc L (.int x :: st) cl sl m := by
  intro p l ev s mth args below meth cd H locs ls d0 hx hb hml hr hk hown hts hin hK hd0 hbs hM hS hL
  subst hq
  exact lv_if_lt hx hb hd ht (fun h => kt h p l ev s mth args below meth cd H locs ls d0 hx hb hml hr hk hown hts hin hK hd0 hbs hM hS hL) (fun h => kf h p l ev s mth args below meth cd H locs ls d0 hx hb hml hr hk hown hts hin hK hd0 hbs hM hS hL)
theorem vv_icmp_lt (t q : Nat) {x y : Int32} {off : Int} (hd : decode cc pc = .ok (.if_icmp .lt off, 3)) (hq : pc + 3 = q) (ht : (pc : Int) + off = (t : Int)) (kt : x < y → VV w own cc nL ret rm ini Q K t L st cl sl m) (kf : ¬ (x < y) → VV w own cc nL ret rm ini Q K q L st cl sl m) : VV w own cc nL ret rm ini Q K pc L (.int y :: .int x :: st) cl sl m := by
  intro p l ev s mth args below meth cd H locs ls d0 hx hb hml hr hk hown hts hin hK hd0 hbs hM hS hL
  subst hq
  exact lv_icmp_lt hx hb hd ht (fun h => kt h p l ev s mth args below meth cd H locs ls d0 hx hb hml hr hk hown hts hin hK hd0 hbs hM hS hL) (fun h => kf h p l ev s mth args below meth cd H locs ls d0 hx hb hml hr hk hown hts hin hK hd0 hbs hM hS hL)
theorem vv_if_ge (t q : Nat) {x : Int32} {off : Int} (hd : decode cc pc = .ok (.ifCond .ge off, 3)) (hq : pc + 3 = q) (ht : (pc : Int) + off = (t : Int)) (kt : 0 ≤ x → VV w own cc nL ret rm ini Q K t L st cl sl m) (kf : ¬ (0 ≤ x) → VV w own cc nL ret rm ini Q K q L st cl sl m) : VV w own cc nL ret rm ini Q K pc L (.int x :: st) cl sl m := by
  intro p l ev s mth args below meth cd H locs ls d0 hx hb hml hr hk hown hts hin hK hd0 hbs hM hS hL
  subst hq
  exact lv_if_ge hx hb hd ht (fun h => kt h p l ev s mth args below meth cd H locs ls d0 hx hb hml hr hk hown hts hin hK hd0 hbs hM hS hL) (fun h => kf h p l ev s mth args below meth cd H locs ls d0 hx hb hml hr hk hown hts hin hK hd0 hbs hM hS hL)
theorem vv_icmp_ge (t q : Nat) {x y : Int32} {off : Int} (hd : decode cc pc = .ok (.if_icmp .ge off, 3)) (hq : pc + 3 = q) (ht : (pc : Int) + off = (t : Int)) (kt : y ≤ x → VV w own cc nL ret rm ini Q K t L st cl sl m) (kf : ¬ (y ≤ x) → VV w own cc nL ret rm ini Q K q L st cl sl m) : VV w own cc nL ret rm ini Q K pc L (.int y :: .int x :: st) cl sl m := by
  intro p l ev s mth args below meth cd H locs ls d0 hx hb hml hr hk hown hts hin hK hd0 hbs hM hS hL
  subst hq
  exact lv_icmp_ge hx hb hd ht (fun h => kt h p l ev s mth args below meth cd H locs ls d0 hx hb hml hr hk hown hts hin hK hd0 hbs hM hS hL) (fun h => kf h p l ev s mth args below meth cd H locs ls d0 hx hb hml hr hk hown hts hin hK hd0 hbs hM hS hL)
theorem vv_if_gt (t q : Nat) {x : Int32} {off : Int} (hd : decode cc pc = .ok (.ifCond .gt off, 3)) (hq : pc + 3 = q) (ht : (pc : Int) + off = (t : Int)) (kt : 0 < x → VV w own cc nL ret rm ini Q K t L st cl sl m) (kf : ¬ (0 < x) → VV w own cc nL ret rm ini Q K q L st cl sl m) : VV w own cc nL ret rm ini Q K pc L (.int x :: st) cl sl m := by
  intro p l ev s mth args below meth cd H locs ls d0 hx hb hml hr hk hown hts hin hK hd0 hbs hM hS hL
  subst hq
  exact lv_if_gt hx hb hd ht (fun h => kt h p l ev s mth args below meth cd H locs ls d0 hx hb hml hr hk hown hts hin hK hd0 hbs hM hS hL) (fun h => kf h p l ev s mth args below meth cd H locs ls d0 hx hb hml hr hk hown hts hin hK hd0 hbs hM hS hL)
theorem vv_icmp_gt (t q : Nat) {x y : Int32} {off : Int} (hd : decode cc pc = .ok (.if_icmp .gt off, 3)) (hq : pc + 3 = q) (ht : (pc : Int) + off = (t : Int)) (kt : y < x → VV w own cc nL ret rm ini Q K t L st cl sl m) (kf : ¬ (y < x) → VV w own cc nL ret rm ini Q K q L st cl sl m) : VV w own cc nL ret rm ini Q K pc L (.int y :: .int x :: st) cl sl m := by
  intro p l ev s mth args below meth cd H locs ls d0 hx hb hml hr hk hown hts hin hK hd0 hbs hM hS hL
  subst hq
  exact lv_icmp_gt hx hb hd ht (fun h => kt h p l ev s mth args below meth cd H locs ls d0 hx hb hml hr hk hown hts hin hK hd0 hbs hM hS hL) (fun h => kf h p l ev s mth args below meth cd H locs ls d0 hx hb hml hr hk hown hts hin hK hd0 hbs hM hS hL)
theorem vv_if_le (t q : Nat) {x : Int32} {off : Int} (hd : decode cc pc = .ok (.ifCond .le off, 3)) (hq : pc + 3 = q) (ht : (pc : Int) + off = (t : Int)) (kt : x ≤ 0 → VV w own cc nL ret rm ini Q K t L st cl sl m) (kf : ¬ (x ≤ 0) → VV w own cc nL ret rm ini Q K q L st cl sl m) : VV w own cc nL ret rm ini Q K pc L (.int x :: st) cl sl m := by
  intro p l ev s mth args below meth cd H locs ls d0 hx hb hml hr hk hown hts hin hK hd0 hbs hM hS hL
  subst hq
  exact lv_if_le hx hb hd ht (fun h => kt h p l ev s mth args below meth cd H locs ls d0 hx hb hml hr hk hown hts hin hK hd0 hbs hM hS hL) (fun h => kf h p l ev s mth args below meth cd H locs ls d0 hx hb hml hr hk hown hts hin hK hd0 hbs hM hS hL)
theorem vv_icmp_le (t q : Nat) {x y : Int32} {off : Int} (hd : decode cc pc = .ok (.if_icmp .le off, 3)) (hq : pc + 3 = q) (ht : (pc : Int) + off = (t : Int)) (kt : x ≤ y → VV w own cc nL ret rm ini Q K t L st cl sl m) (kf : ¬ (x ≤ y) → VV w own cc nL ret rm ini Q K q L st cl sl m) : VV w own cc nL ret rm ini Q K pc L (.int y :: .int x :: st) cl sl m := by
  intro p l ev s mth args below meth cd H locs ls d0 hx hb hml hr hk hown hts hin hK hd0 hbs hM hS hL
  subst hq
  exact lv_icmp_le hx hb hd ht (fun h => kt h p l ev s mth args below meth cd H locs ls d0 hx hb hml hr hk hown hts hin hK hd0 hbs hM hS hL) (fun h => kf h p l ev s mth args below meth cd H locs ls d0 hx hb hml hr hk hown hts hin hK hd0 hbs hM hS hL)
theorem vv_if_ne (t q : Nat) {x : Int32} {off : Int} (hd : decode cc pc = .ok (.ifCond .ne off, 3)) (hq : pc + 3 = q) (ht : (pc : Int) + off = (t : Int)) (kf : x = 0 → VV w own cc nL ret rm ini Q K q L st cl sl m) (kt : ¬ (x = 0) → VV w own cc nL ret rm ini Q K t L st cl sl m) : VV w own cc nL ret rm ini Q K pc L (.int x :: st) cl sl m := by
  intro p l ev s mth args below meth cd H locs ls d0 hx hb hml hr hk hown hts hin hK hd0 hbs hM hS hL
  subst hq
  exact lv_if_ne hx hb hd ht (fun h => kt h p l ev s mth args below meth cd H locs ls d0 hx hb hml hr hk hown hts hin hK hd0 hbs hM hS hL) (fun h => kf h p l ev s mth args below meth cd H locs ls d0 hx hb hml hr hk hown hts hin hK hd0 hbs hM hS hL)
theorem vv_icmp_ne (t q : Nat) {x y : Int32} {off : Int} (hd : decode cc pc = .ok (.if_icmp .ne off, 3)) (hq : pc + 3 = q) (ht : (pc : Int) + off = (t : Int)) (kf : x = y → VV w own cc nL ret rm ini Q K q L st cl sl m) (kt : ¬ (x = y) → VV w own cc nL ret rm ini Q K t L st cl sl m) : VV w own cc nL ret rm ini Q K pc L (.int y :: .int x :: st) cl sl m := by
  intro p l ev s mth args below meth cd H locs ls d0 hx hb hml hr hk hown hts hin hK hd0 hbs hM hS hL
  subst hq
  exact lv_icmp_ne hx hb hd ht (fun h => kt h p l ev s mth args below meth cd H locs ls d0 hx hb hml hr hk hown hts hin hK hd0 hbs hM hS hL) (fun h => kf h p l ev s mth args below meth cd H locs ls d0 hx hb hml hr hk hown hts hin hK hd0 hbs hM hS hL)
theorem vv_goto (t : Nat) {off : Int} (hd : decode cc pc = .ok (.goto off, 3)) (ht : (pc : Int) + off = (t : Int)) (kk : VV w own cc nL ret rm ini Q K t L st cl sl m) : VV w own cc nL ret rm ini Q K pc L st cl sl m := by
  intro p l ev s mth args below meth cd H locs ls d0 hx hb hml hr hk hown hts hin hK hd0 hbs hM hS hL
  exact lv_goto hx hb hd ht (kk p l ev s mth args below meth cd H locs ls d0 hx hb hml hr hk hown hts hin hK hd0 hbs hM hS hL)
theorem vv_ifnull (q : Nat) {x : Nat} {off : Int} (hd : decode cc pc = .ok (.ifnull off, 3)) (hq : pc + 3 = q) (kk : VV w own cc nL ret rm ini Q K q L st cl sl m) : VV w own cc nL ret rm ini Q K pc L (.ref x :: st) cl sl m := by
  intro p l ev s mth args below meth cd H locs ls d0 hx hb hml hr hk hown hts hin hK hd0 hbs hM hS hL
  subst hq
  exact lv_ifnull hx hb hd (kk p l ev s mth args below meth cd H locs ls d0 hx hb hml hr hk hown hts hin hK hd0 hbs hM hS hL)
theorem vv_ifnullN (t : Nat) {off : Int} (hd : decode cc pc = .ok (.ifnull off, 3)) (ht : (pc : Int) + off = (t : Int)) (kk : VV w own cc nL ret rm ini Q K t L st cl sl m) : VV w own cc nL ret rm ini Q K pc L (.null :: st) cl sl m := by
  intro p l ev s mth args below meth cd H locs ls d0 hx hb hml hr hk hown hts hin hK hd0 hbs hM hS hL
  exact lv_ifnullN hx hb hd ht (kk p l ev s mth args below meth cd H locs ls d0 hx hb hml hr hk hown hts hin hK hd0 hbs hM hS hL)
theorem vv_ifnonnull (t : Nat) {x : Nat} {off : Int} (hd : decode cc pc = .ok (.ifnonnull off, 3)) (ht : (pc : Int) + off = (t : Int)) (kk : VV w own cc nL ret rm ini Q K t L st cl sl m) : VV w own cc nL ret rm ini Q K pc L (.ref x :: st) cl sl m := by
  intro p l ev s mth args below meth cd H locs ls d0 hx hb hml hr hk hown hts hin hK hd0 hbs hM hS hL
  exact lv_ifnonnull hx hb hd ht (kk p l ev s mth args below meth cd H locs ls d0 hx hb hml hr hk hown hts hin hK hd0 hbs hM hS hL)
theorem vv_ifnonnullN (q : Nat) {off : Int} (hd : decode cc pc = .ok (.ifnonnull off, 3)) (hq : pc + 3 = q) (kk : VV w own cc nL ret rm ini Q K q L st cl sl m) : VV w own cc nL ret rm ini Q K pc L (.null :: st) cl sl m := by
  intro p l ev s mth args below meth cd H locs ls d0 hx hb hml hr hk hown hts hin hK hd0 hbs hM hS hL
  subst hq
  exact lv_ifnonnullN hx hb hd (kk p l ev s mth args below meth cd H locs ls d0 hx hb hml hr hk hown hts hin hK hd0 hbs hM hS hL)
theorem vv_tabIn (t : Nat) {dflt lo hi : Int} {offs : Array Int} {len : Nat} {x : Int32} {off : Int} (hd : decode cc pc = .ok (.tableswitch dflt lo hi offs, len)) (h1 : ¬ x.toInt < lo) (h2 : ¬ hi < x.toInt) (ho : offs[(x.toInt - lo).toNat]? = some off) (ht : (pc : Int) + off = (t : Int)) (kk : VV w own cc nL ret rm ini Q K t L st cl sl m) : VV w own cc nL ret rm ini Q K pc L (.int x :: st) cl sl m := by
  intro p l ev s mth args below meth cd H locs ls d0 hx hb hml hr hk hown hts hin hK hd0 hbs hM hS hL
  exact lv_tableIn hx hb hd h1 h2 ho ht (kk p l ev s mth args below meth cd H locs ls d0 hx hb hml hr hk hown hts hin hK hd0 hbs hM hS hL)
theorem vv_tabOut (t : Nat) {dflt lo hi : Int} {offs : Array Int} {len : Nat} {x : Int32} (hd : decode cc pc = .ok (.tableswitch dflt lo hi offs, len)) (h : x.toInt < lo ∨ hi < x.toInt) (ht : (pc : Int) + dflt = (t : Int)) (kk : VV w own cc nL ret rm ini Q K t L st cl sl m) : VV w own cc nL ret rm ini Q K pc L (.int x :: st) cl sl m := by
  intro p l ev s mth args below meth cd H locs ls d0 hx hb hml hr hk hown hts hin hK hd0 hbs hM hS hL
  exact lv_tableOut hx hb hd h ht (kk p l ev s mth args below meth cd H locs ls d0 hx hb hml hr hk hown hts hin hK hd0 hbs hM hS hL)
theorem vv_istore_n (q : Nat) {k : Fin 4} {x : Int32} {L' : List (Option Value)} (hd : decode cc pc = .ok (.istore_n k, 1)) (hq : pc + 1 = q) (hn : (k : Nat) < nL) (hl : st1L L (k : Nat) (.int x) = L') (kk : VV w own cc nL ret rm ini Q K q L' st cl sl m) : VV w own cc nL ret rm ini Q K pc L (.int x :: st) cl sl m := by
  intro p l ev s mth args below meth cd H locs ls d0 hx hb hml hr hk hown hts hin hK hd0 hbs hM hS hL
  subst hq
  subst hl
  exact lv_istore_n hx hb hd rfl (lvh_prs hL) hn rfl (fun ls' hl' => kk p l ev s mth args below meth cd H locs ls' d0 hx hb hml hr hk hown hts hin hK hd0 hbs hM hS (lvh_st1 hl'))
theorem vv_istore (q : Nat) {k : Nat} {x : Int32} {L' : List (Option Value)} (hd : decode cc pc = .ok (.istore k, 2)) (hq : pc + 2 = q) (hn : k < nL) (hl : st1L L k (.int x) = L') (kk : VV w own cc nL ret rm ini Q K q L' st cl sl m) : VV w own cc nL ret rm ini Q K pc L (.int x :: st) cl sl m := by
  intro p l ev s mth args below meth cd H locs ls d0 hx hb hml hr hk hown hts hin hK hd0 hbs hM hS hL
  subst hq
  subst hl
  exact lv_istore hx hb hd (lvh_prs hL) hn rfl (fun ls' hl' => kk p l ev s mth args below meth cd H locs ls' d0 hx hb hml hr hk hown hts hin hK hd0 hbs hM hS (lvh_st1 hl'))
theorem vv_astore_n (q : Nat) {k : Fin 4} {x : Nat} {L' : List (Option Value)} (hd : decode cc pc = .ok (.astore_n k, 1)) (hq : pc + 1 = q) (hn : (k : Nat) < nL) (hl : st1L L (k : Nat) (.ref x) = L') (kk : VV w own cc nL ret rm ini Q K q L' st cl sl m) : VV w own cc nL ret rm ini Q K pc L (.ref x :: st) cl sl m := by
  intro p l ev s mth args below meth cd H locs ls d0 hx hb hml hr hk hown hts hin hK hd0 hbs hM hS hL
  subst hq
  subst hl
  exact lv_astore_n hx hb hd rfl (lvh_prs hL) hn rfl (fun ls' hl' => kk p l ev s mth args below meth cd H locs ls' d0 hx hb hml hr hk hown hts hin hK hd0 hbs hM hS (lvh_st1 hl'))
theorem vv_astore (q : Nat) {k : Nat} {x : Nat} {L' : List (Option Value)} (hd : decode cc pc = .ok (.astore k, 2)) (hq : pc + 2 = q) (hn : k < nL) (hl : st1L L k (.ref x) = L') (kk : VV w own cc nL ret rm ini Q K q L' st cl sl m) : VV w own cc nL ret rm ini Q K pc L (.ref x :: st) cl sl m := by
  intro p l ev s mth args below meth cd H locs ls d0 hx hb hml hr hk hown hts hin hK hd0 hbs hM hS hL
  subst hq
  subst hl
  exact lv_astore hx hb hd (lvh_prs hL) hn rfl (fun ls' hl' => kk p l ev s mth args below meth cd H locs ls' d0 hx hb hml hr hk hown hts hin hK hd0 hbs hM hS (lvh_st1 hl'))
theorem vv_lstore_n (q : Nat) {k : Fin 4} {x : Int64} {L' : List (Option Value)} (hd : decode cc pc = .ok (.lstore_n k, 1)) (hq : pc + 1 = q) (hn : (k : Nat) + 1 < nL) (hl : st2L L (k : Nat) (.long x) = L') (kk : VV w own cc nL ret rm ini Q K q L' st cl sl m) : VV w own cc nL ret rm ini Q K pc L (.long x :: st) cl sl m := by
  intro p l ev s mth args below meth cd H locs ls d0 hx hb hml hr hk hown hts hin hK hd0 hbs hM hS hL
  subst hq
  subst hl
  exact lv_lstore_n hx hb hd rfl (lvh_prs hL) hn rfl (fun ls' hl' => kk p l ev s mth args below meth cd H locs ls' d0 hx hb hml hr hk hown hts hin hK hd0 hbs hM hS (lvh_st2 hl'))
theorem vv_lstore (q : Nat) {k : Nat} {x : Int64} {L' : List (Option Value)} (hd : decode cc pc = .ok (.lstore k, 2)) (hq : pc + 2 = q) (hn : k + 1 < nL) (hl : st2L L k (.long x) = L') (kk : VV w own cc nL ret rm ini Q K q L' st cl sl m) : VV w own cc nL ret rm ini Q K pc L (.long x :: st) cl sl m := by
  intro p l ev s mth args below meth cd H locs ls d0 hx hb hml hr hk hown hts hin hK hd0 hbs hM hS hL
  subst hq
  subst hl
  exact lv_lstore hx hb hd (lvh_prs hL) hn rfl (fun ls' hl' => kk p l ev s mth args below meth cd H locs ls' d0 hx hb hml hr hk hown hts hin hK hd0 hbs hM hS (lvh_st2 hl'))
theorem vv_dstore_n (q : Nat) {k : Fin 4} {x : UInt64} {L' : List (Option Value)} (hd : decode cc pc = .ok (.dstore_n k, 1)) (hq : pc + 1 = q) (hn : (k : Nat) + 1 < nL) (hl : st2L L (k : Nat) (.double x) = L') (kk : VV w own cc nL ret rm ini Q K q L' st cl sl m) : VV w own cc nL ret rm ini Q K pc L (.double x :: st) cl sl m := by
  intro p l ev s mth args below meth cd H locs ls d0 hx hb hml hr hk hown hts hin hK hd0 hbs hM hS hL
  subst hq
  subst hl
  exact lv_dstore_n hx hb hd rfl (lvh_prs hL) hn rfl (fun ls' hl' => kk p l ev s mth args below meth cd H locs ls' d0 hx hb hml hr hk hown hts hin hK hd0 hbs hM hS (lvh_st2 hl'))
theorem vv_dstore (q : Nat) {k : Nat} {x : UInt64} {L' : List (Option Value)} (hd : decode cc pc = .ok (.dstore k, 2)) (hq : pc + 2 = q) (hn : k + 1 < nL) (hl : st2L L k (.double x) = L') (kk : VV w own cc nL ret rm ini Q K q L' st cl sl m) : VV w own cc nL ret rm ini Q K pc L (.double x :: st) cl sl m := by
  intro p l ev s mth args below meth cd H locs ls d0 hx hb hml hr hk hown hts hin hK hd0 hbs hM hS hL
  subst hq
  subst hl
  exact lv_dstore hx hb hd (lvh_prs hL) hn rfl (fun ls' hl' => kk p l ev s mth args below meth cd H locs ls' d0 hx hb hml hr hk hown hts hin hK hd0 hbs hM hS (lvh_st2 hl'))
theorem vv_astore_nN (q : Nat) {k : Fin 4} {L' : List (Option Value)} (hd : decode cc pc = .ok (.astore_n k, 1)) (hq : pc + 1 = q) (hn : (k : Nat) < nL) (hl : st1L L (k : Nat) .null = L') (kk : VV w own cc nL ret rm ini Q K q L' st cl sl m) : VV w own cc nL ret rm ini Q K pc L (.null :: st) cl sl m := by
  intro p l ev s mth args below meth cd H locs ls d0 hx hb hml hr hk hown hts hin hK hd0 hbs hM hS hL
  subst hq
  subst hl
  exact lv_astore_nN hx hb hd rfl (lvh_prs hL) hn rfl (fun ls' hl' => kk p l ev s mth args below meth cd H locs ls' d0 hx hb hml hr hk hown hts hin hK hd0 hbs hM hS (lvh_st1 hl'))
theorem vv_astoreN (q : Nat) {k : Nat} {L' : List (Option Value)} (hd : decode cc pc = .ok (.astore k, 2)) (hq : pc + 2 = q) (hn : k < nL) (hl : st1L L k .null = L') (kk : VV w own cc nL ret rm ini Q K q L' st cl sl m) : VV w own cc nL ret rm ini Q K pc L (.null :: st) cl sl m := by
  intro p l ev s mth args below meth cd H locs ls d0 hx hb hml hr hk hown hts hin hK hd0 hbs hM hS hL
  subst hq
  subst hl
  exact lv_astoreN hx hb hd (lvh_prs hL) hn rfl (fun ls' hl' => kk p l ev s mth args below meth cd H locs ls' d0 hx hb hml hr hk hown hts hin hK hd0 hbs hM hS (lvh_st1 hl'))
theorem vv_iinc (q : Nat) {i : Nat} {n : Int} {x v : Int32} {L' : List (Option Value)} (hd : decode cc pc = .ok (.iinc i n, 3)) (hq : pc + 3 = q) (hg : L[i]? = some (some (.int x))) (hv : x + Int32.ofInt n = v) (hn : i < nL) (hl : st1L L i (.int v) = L') (kk : VV w own cc nL ret rm ini Q K q L' st cl sl m) : VV w own cc nL ret rm ini Q K pc L st cl sl m := by
  intro p l ev s mth args below meth cd H locs ls d0 hx hb hml hr hk hown hts hin hK hd0 hbs hM hS hL
  subst hq
  subst hl
  obtain ⟨k, hk1⟩ := List.getElem?_of_mem (prs_mem hg)
  exact lv_iinc hx hb hd (lvh_prs hL) hk1 hv hn rfl (fun ls' hl' => kk p l ev s mth args below meth cd H locs ls' d0 hx hb hml hr hk hown hts hin hK hd0 hbs hM hS (lvh_st1 hl'))
theorem vv_dadd (q : Nat) {x y : UInt64} (hd : decode cc pc = .ok (.dadd, 1)) (hq : pc + 1 = q) (kk : ∀ r : UInt64, alike64 r (FP.dadd x y) = true → VV w own cc nL ret rm ini Q K q L (.double r :: st) cl sl m) : VV w own cc nL ret rm ini Q K pc L (.double y :: .double x :: st) cl sl m := by
  intro p l ev s mth args below meth cd H locs ls d0 hx hb hml hr hk hown hts hin hK hd0 hbs hM hS hL
  subst hq
  exact lv_dadd_any hd0 lw_bits hx hb hd (fun r d1 hal hd1 => kk r hal p l ev s mth args below meth cd H locs ls d1 hx hb hml hr hk hown hts hin hK hd1 hbs hM hS hL)
theorem vv_dmul (q : Nat) {x y : UInt64} (hd : decode cc pc = .ok (.dmul, 1)) (hq : pc + 1 = q) (kk : ∀ r : UInt64, alike64 r (FP.dmul x y) = true → VV w own cc nL ret rm ini Q K q L (.double r :: st) cl sl m) : VV w own cc nL ret rm ini Q K pc L (.double y :: .double x :: st) cl sl m := by
  intro p l ev s mth args below meth cd H locs ls d0 hx hb hml hr hk hown hts hin hK hd0 hbs hM hS hL
  subst hq
  exact lv_dmul_any hd0 lw_bits hx hb hd (fun r d1 hal hd1 => kk r hal p l ev s mth args below meth cd H locs ls d1 hx hb hml hr hk hown hts hin hK hd1 hbs hM hS hL)
end VR
