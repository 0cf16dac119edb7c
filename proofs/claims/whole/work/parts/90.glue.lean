/-! ===== the law's entry: the world, out of what the Statement gives ===== -/
set_option maxRecDepth 10000 in
theorem w_inst0 : Cond.instantiable RX0 9 ∈ lw_gd := gw (tb1 (List.mem_of_getElem? (i := 138) rfl)) rfl
set_option maxRecDepth 10000 in
theorem w_inst1 : Cond.instantiable RX1 14 ∈ lw_gd := gw (tb1 (List.mem_of_getElem? (i := 64) rfl)) rfl
set_option maxRecDepth 10000 in
theorem w_inst2 : Cond.instantiable RX2 5 ∈ lw_gd := gw (tb2 (List.mem_of_getElem? (i := 94) rfl)) rfl
set_option maxRecDepth 10000 in
theorem w_inst3 : Cond.instantiable RX4 9 ∈ lw_gd := gw (tb1 (List.mem_of_getElem? (i := 228) rfl)) rfl
set_option maxRecDepth 10000 in
theorem w_inst4 : Cond.instantiable RX5 3 ∈ lw_gd := gw (tb1 (List.mem_of_getElem? (i := 34) rfl)) rfl
set_option maxRecDepth 10000 in
theorem w_inst5 : Cond.instantiable RX6 17 ∈ lw_gd := gw (tb2 (List.mem_of_getElem? (i := 24) rfl)) rfl
set_option maxRecDepth 10000 in
theorem w_inst6 : Cond.instantiable RX7 7 ∈ lw_gd := gw (tb1 (List.mem_of_getElem? (i := 26) rfl)) rfl
set_option maxRecDepth 10000 in
theorem w_inst7 : Cond.instantiable RX8 9 ∈ lw_gd := gw (tb1 (List.mem_of_getElem? (i := 17) rfl)) rfl
set_option maxRecDepth 10000 in
theorem w_inst8 : Cond.instantiable RX9 41 ∈ lw_gd := gw (tb5 (List.mem_of_getElem? (i := 48) rfl)) rfl
set_option maxRecDepth 10000 in
theorem w_arr0 : Cond.arrayClass FieldType.int ∈ lw_gd := gw (tb1 (List.mem_of_getElem? (i := 61) rfl)) rfl
set_option maxRecDepth 10000 in
theorem w_arr1 : Cond.arrayClass FieldType.long ∈ lw_gd := gw (tb1 (List.mem_of_getElem? (i := 62) rfl)) rfl
set_option maxRecDepth 10000 in
theorem w_arr2 : Cond.arrayClass FieldType.boolean ∈ lw_gd := gw (tb5 (List.mem_of_getElem? (i := 177) rfl)) rfl
set_option maxRecDepth 10000 in
theorem gl_stat {args : Array Value} {s : State} {A : Nat → Prop} (hs : ∀ c ∈ flatC (Jvm.Cond.and given_1 narrow_1), c.before args s = true) (hts : ∀ x ∈ lw_tbl, x.before args s = true) (hA : ∀ a : Nat, a < s.heap.size → ¬ A a) (k : Nat) (hk : k < 3) : ∃ t : Nat, va_Z "SeriesPress" (stN k) "[I" (.ref t) A s s.heap ∧ va_T .int t 5 (fun j => .int (stV k j)) A s s.heap := by
  match k, hk with
  | 0, _ =>
    obtain ⟨t, h1, h2⟩ := va_Tof (tm := .static "SeriesPress" "CLASS_PREFIX" "[I") (ty := .int) (N := 5) (f := fun j => .int (stV 0 j)) (by decide) (hs _ (by decide +kernel)) (va_eqt (hs _ (by decide +kernel))) (fun j hj => by
      match j, hj with
      | 0, _ => exact va_eqt (hs _ (by decide +kernel))
      | 1, _ => exact va_eqt (hs _ (by decide +kernel))
      | 2, _ => exact va_eqt (hs _ (by decide +kernel))
      | 3, _ => exact va_eqt (hs _ (by decide +kernel))
      | 4, _ => exact va_eqt (hs _ (by decide +kernel))
      | j + 5, h => exact absurd h (by omega)) hA
    exact ⟨t, va_Zof (hts _ (tb2 (List.mem_of_getElem? (i := 227) rfl))) (hts _ (tb1 (List.mem_of_getElem? (i := 1) rfl))) h1 hA, h2⟩
  | 1, _ =>
    obtain ⟨t, h1, h2⟩ := va_Tof (tm := .static "SeriesPress" "CLASS_PREFIX_BITS" "[I") (ty := .int) (N := 5) (f := fun j => .int (stV 1 j)) (by decide) (hs _ (by decide +kernel)) (va_eqt (hs _ (by decide +kernel))) (fun j hj => by
      match j, hj with
      | 0, _ => exact va_eqt (hs _ (by decide +kernel))
      | 1, _ => exact va_eqt (hs _ (by decide +kernel))
      | 2, _ => exact va_eqt (hs _ (by decide +kernel))
      | 3, _ => exact va_eqt (hs _ (by decide +kernel))
      | 4, _ => exact va_eqt (hs _ (by decide +kernel))
      | j + 5, h => exact absurd h (by omega)) hA
    exact ⟨t, va_Zof (hts _ (tb2 (List.mem_of_getElem? (i := 209) rfl))) (hts _ (tb1 (List.mem_of_getElem? (i := 1) rfl))) h1 hA, h2⟩
  | 2, _ =>
    obtain ⟨t, h1, h2⟩ := va_Tof (tm := .static "SeriesPress" "CLASS_BITS" "[I") (ty := .int) (N := 5) (f := fun j => .int (stV 2 j)) (by decide) (hs _ (by decide +kernel)) (va_eqt (hs _ (by decide +kernel))) (fun j hj => by
      match j, hj with
      | 0, _ => exact va_eqt (hs _ (by decide +kernel))
      | 1, _ => exact va_eqt (hs _ (by decide +kernel))
      | 2, _ => exact va_eqt (hs _ (by decide +kernel))
      | 3, _ => exact va_eqt (hs _ (by decide +kernel))
      | 4, _ => exact va_eqt (hs _ (by decide +kernel))
      | j + 5, h => exact absurd h (by omega)) hA
    exact ⟨t, va_Zof (hts _ (tb2 (List.mem_of_getElem? (i := 211) rfl))) (hts _ (tb1 (List.mem_of_getElem? (i := 1) rfl))) h1 hA, h2⟩
theorem gl_arr {args : Array Value} {s : State} {ty : FieldType} (h : (Cond.arrayClass ty).before args s = true) : ∃ cA : ClassId, ArrOfT s cA ty ∧ s.vm.findClass ("[" ++ ty.toString) = some cA := by
  obtain ⟨c, k, comp, h1, h2, h3⟩ := Cond.arrayClass_spec h
  exact ⟨c, fun n z => ⟨fun k h => (by cases h), k, h2, comp, h3⟩, h1⟩
theorem gl_over {args : Array Value} {s : State} {C : String} (h : (Cond.arrayOver (.object C)).before args s = true) : ∃ cA : ClassId, ArrOfT s cA (.object C) ∧ va_RA s cA (.object C) := by
  obtain ⟨comp, c, k, h1, -, h3, h4, h5⟩ := Cond.arrayOver_spec h
  exact ⟨c, fun n z => ⟨fun k h => (by cases h), k, h3, comp, h4⟩, k, comp, h3, h4, h1, h5⟩
theorem gl_known {args : Array Value} {s : State} (hts : ∀ x ∈ lw_gd, x.before args s = true) : ∃ (dC : Nat → ClassId) (dI : Nat → Nat → Nat), ∀ (k : Nat) (q : vw_C), vwCl[k]? = some q → u_Kn s q.1 q.2.1 q.2.2 (dC k) (dI k) := by
  have h : ∀ k : Nat, ∃ (c : ClassId) (i : Nat → Nat), ∀ q : vw_C, vwCl[k]? = some q → u_Kn s q.1 q.2.1 q.2.2 c i := by
    intro k
    match k with
    | 0 => obtain ⟨c, i, h⟩ := u_known hts inX0 (hts (.instantiable RX0 9) w_inst0); exact ⟨c, i, fun q hq => by cases hq; exact h⟩
    | 1 => obtain ⟨c, i, h⟩ := u_known hts inX1 (hts (.instantiable RX1 14) w_inst1); exact ⟨c, i, fun q hq => by cases hq; exact h⟩
    | 2 => obtain ⟨c, i, h⟩ := u_known hts inX2 (hts (.instantiable RX2 5) w_inst2); exact ⟨c, i, fun q hq => by cases hq; exact h⟩
    | 3 => obtain ⟨c, i, h⟩ := u_known hts inX4 (hts (.instantiable RX4 9) w_inst3); exact ⟨c, i, fun q hq => by cases hq; exact h⟩
    | 4 => obtain ⟨c, i, h⟩ := u_known hts inX5 (hts (.instantiable RX5 3) w_inst4); exact ⟨c, i, fun q hq => by cases hq; exact h⟩
    | 5 => obtain ⟨c, i, h⟩ := u_known hts inX6 (hts (.instantiable RX6 17) w_inst5); exact ⟨c, i, fun q hq => by cases hq; exact h⟩
    | 6 => obtain ⟨c, i, h⟩ := u_known hts inX7 (hts (.instantiable RX7 7) w_inst6); exact ⟨c, i, fun q hq => by cases hq; exact h⟩
    | 7 => obtain ⟨c, i, h⟩ := u_known hts inX8 (hts (.instantiable RX8 9) w_inst7); exact ⟨c, i, fun q hq => by cases hq; exact h⟩
    | 8 => obtain ⟨c, i, h⟩ := u_known hts inX9 (hts (.instantiable RX9 41) w_inst8); exact ⟨c, i, fun q hq => by cases hq; exact h⟩
    | k + 9 => exact ⟨0, fun _ => 0, fun q hq => by simp [vwCl] at hq⟩
  exact ⟨fun k => (h k).choose, fun k => (h k).choose_spec.choose, fun k q hq => (h k).choose_spec.choose_spec q hq⟩
set_option maxRecDepth 10000 in
theorem gl_NN {args : Array Value} {s : State} (hts : ∀ x ∈ lw_tbl, x.before args s = true) : NN s := by
  refine ⟨?_, ?_, ?_, ?_⟩
  · intro q hq
    simp only [nsM, List.mem_cons, List.not_mem_nil, or_false] at hq
    rcases hq with rfl | rfl | rfl | rfl | rfl | rfl | rfl
    · exact va_Nw.of rfl (hts _ (tb1 (List.mem_of_getElem? (i := 65) rfl)))
    · exact va_Nw.of rfl (hts _ (tb1 (List.mem_of_getElem? (i := 139) rfl)))
    · exact va_Nw.of rfl (hts _ (tb2 (List.mem_of_getElem? (i := 25) rfl)))
    · exact va_Nw.of rfl (hts _ (tb2 (List.mem_of_getElem? (i := 30) rfl)))
    · exact va_Nw.of rfl (hts _ (tb2 (List.mem_of_getElem? (i := 92) rfl)))
    · exact va_Nw.of rfl (hts _ (tb2 (List.mem_of_getElem? (i := 118) rfl)))
    · exact va_Nw.of rfl (hts _ (tb3 (List.mem_of_getElem? (i := 94) rfl)))
  · intro q hq
    simp only [nsF, List.mem_cons, List.not_mem_nil, or_false] at hq
    rcases hq with rfl | rfl | rfl | rfl | rfl | rfl
    · exact va_Nw.of rfl (hts _ (tb2 (List.mem_of_getElem? (i := 208) rfl)))
    · exact va_Nw.of rfl (hts _ (tb2 (List.mem_of_getElem? (i := 210) rfl)))
    · exact va_Nw.of rfl (hts _ (tb2 (List.mem_of_getElem? (i := 226) rfl)))
    · exact va_Nw.of rfl (hts _ (tb2 (List.mem_of_getElem? (i := 228) rfl)))
    · exact va_Nw.of rfl (hts _ (tb2 (List.mem_of_getElem? (i := 233) rfl)))
    · exact va_Nw.of rfl (hts _ (tb3 (List.mem_of_getElem? (i := 107) rfl)))
  · exact va_AO.of (hts _ (tb1 (List.mem_of_getElem? (i := 25) rfl)))
  · exact va_AO.of (hts _ (tb1 (List.mem_of_getElem? (i := 32) rfl)))
/-- an empty memory of a size -/
def mem0 (n : Nat) : Mem := (n, fun _ _ => 0, fun _ _ => 0, fun _ _ => none)
set_option maxHeartbeats 4000000 in
theorem whole_of (hone : ∀ (sL : Nat) (sx : Nat → Int32) (n : Nat), sL ≤ 3072 → f_L_law (fun _ => none) sL sx (mem0 n) = some 1) {p : Program} {e : Env} {s : State} {m : MethodId} {below : List Frame} {meth : Method} {c : Code} (l : Launch) (hflags : l.flags = flags0) {b L : Nat} {xs : Nat → Int32} (hL : L ≤ 3072) (C0 : lw_At p s m meth c b L xs) : W p l e room_1 s m #[Value.ref b] below meth c s.heap [] 0 0 (lw_Z below #[Value.ref b] s) (entryFrame m ([Value.ref b] : List Value).toArray 4) := by
  obtain ⟨hx, hb, hr, hml, hown, hts, hX, hbl, hlocks, hgv⟩ := id C0
  have hs := flat_of_before _ hgv
  have htg : ∀ x ∈ lw_gd, x.before #[Value.ref b] s = true := fun x hx => hts x (gw_in hx)
  obtain ⟨dC, dI, hKn⟩ := gl_known htg
  obtain ⟨a0, hA0, hN0⟩ := gl_arr (htg (Cond.arrayClass .int) w_arr0)
  obtain ⟨a1, hA1, hN1⟩ := gl_arr (htg (Cond.arrayClass .long) w_arr1)
  obtain ⟨a2, hA2, hN2⟩ := gl_arr (htg (Cond.arrayClass .boolean) w_arr2)
  have hNN := gl_NN hts
  obtain ⟨a3, hA3, hN3⟩ := gl_over (va_AO.use (A := #[]) hNN.2.2.1)
  obtain ⟨a4, hA4, hN4⟩ := gl_over (va_AO.use (A := #[]) hNN.2.2.2)
  have hst : ∀ k : Nat, ∃ t : Nat, k < 3 → va_Z "SeriesPress" (stN k) "[I" (.ref t) (fun q => s.heap.size ≤ q) s s.heap ∧ va_T .int t 5 (fun j => .int (stV k j)) (fun q => s.heap.size ≤ q) s s.heap := by
    intro k
    by_cases hk : k < 3
    · obtain ⟨t, h⟩ := gl_stat (A := fun q => s.heap.size ≤ q) hs hts (fun a ha => Nat.not_le.mpr ha) k hk
      exact ⟨t, fun _ => h⟩
    · exact ⟨0, fun h => absurd h hk⟩
  let w : Wo := ((dC, dI), fun k => if k = 0 then a0 else if k = 1 then a1 else if k = 2 then a2 else if k = 3 then a3 else a4, s.heap, fun k => (hst k).choose, (b, L, xs))
  have hKK : KK w s := by
    refine ⟨⟨hKn, fun k q hq => ?_⟩, fun k hk => (hst k).choose_spec hk, ⟨hX, hbl⟩, hNN⟩
    match k, hq with
    | 0, hq => cases hq; exact ⟨hA0, hN0⟩
    | 1, hq => cases hq; exact ⟨hA1, hN1⟩
    | 2, hq => cases hq; exact ⟨hA2, hN2⟩
    | 3, hq => cases hq; exact ⟨hA3, hN3⟩
    | 4, hq => cases hq; exact ⟨hA4, hN4⟩
    | k + 5, hq => simp at hq
  have hV := v_L_law_0 (w := w) (K := fun _ => none) (hone L xs s.heap.size hL)
  have hl := lv_entry ([Value.ref b]) (n := 4) (Nat.le_of_ble_eq_true rfl)
  rw [lg_entry_eq]
  have hW := hV p l e s m #[Value.ref b] below meth c s.heap [] _ s.drawn hx hb hml hr hlocks hown htg (fun h => by cases h) hKK (Drawn.sameBut.refl _ _) (Nat.le_refl _) ⟨rfl, Nat.le_refl _, fun _ _ => rfl, fun a k h => by cases h⟩ va_S.rf ⟨hl.1, hl.2.1, fun k v hk => hl.2.2 (k, v) (by simpa using argL_in [Value.ref b] 0 3 k v hk)⟩
  intro T hT X
  obtain ⟨t, q1, q2⟩ := hW T hT X
  exact ⟨t, q1, q2 (Nat.le_refl _)⟩
theorem whole_start {p : Program} {e : Env} {s : State} {m : MethodId} {below : List Frame} {meth : Method} {c : Code} (l : Launch) (hflags : l.flags = flags0) {b L : Nat} {xs : Nat → Int32} (hL : L ≤ 3072) (C0 : lw_At p s m meth c b L xs) : W p l e room_1 s m #[Value.ref b] below meth c s.heap [] 0 0 (lw_Z below #[Value.ref b] s) (entryFrame m ([Value.ref b] : List Value).toArray 4) := whole_of law_one l hflags hL C0
-- ===== YOUR PART ENDS =====
set_option maxHeartbeats 4000000 in
theorem lw_walk (l : Launch) (hflags : l.flags = flags0) (b : Addr) (xs : List Int32) : MetFree l x (headSpec (Jvm.Cond.code x code maxLocals ret :: tables_1) room_1) (lw_P b xs) (fun _ _ _ _ _ => True) lw_Q := by
  refine MetFree.of_bodyS (code := code) (maxLocals := maxLocals) (ret := ret) (by decide) ?_ ?_
  · intro args s m h hn
    obtain ⟨meth, c, h1, h2, h3, h4, h5, h6, -, -⟩ := Cond.code_spec hn (atoms_spec (ws := Jvm.Cond.code x code maxLocals ret :: tables_1) h _ List.mem_cons_self)
    exact ⟨meth, c, h1, h2, h3, h4, h5, h6⟩
  · intro p e s m args below meth c s₁ B hml0 hP _
    obtain ⟨rfl, hx, hbd, hgv⟩ := hP
    obtain ⟨scr, harrAt, hlist, hof, hsmall⟩ := hx
    obtain ⟨hcb, hkn, -, -⟩ := State.arrayAt?_spec harrAt
    have hown : s.vm.findClass R_law = some m.cls := findClass_of_methodNamed B.named
    have hts0 : ∀ c ∈ (Jvm.Cond.code x code maxLocals ret :: tables_1), c.before #[Value.ref b] s = true := atoms_spec (ws := Jvm.Cond.code x code maxLocals ret :: tables_1) B.pre
    have hts : ∀ w ∈ lw_tbl, w.before #[Value.ref b] s = true := k2_hts_sels lw_privs (fun w hw => hts0 w (List.mem_cons_of_mem _ hw)) lw_privs_ok
    have hml : c.maxLocals = 4 := B.maxLocals_eq (hts0 _ List.mem_cons_self)
    have X₀ : Stand p l e room_1 s m #[Value.ref b] below meth c s₁ [] 0 0 := Stand.of_body B
    have hh0 : s₁.heap = s.heap := by rw [B.state]; rfl
    have hsz : scr.slots.size = xs.length := by rw [← Array.length_toList, hlist, List.length_map]
    have hval : ∀ j : Nat, j < xs.length → scr.slots[j]? = some (.int (xs.getD j 0)) := fun j hj => by
      rw [← Array.getElem?_toList, hlist]
      simp [hj]
    have hbl : b < s.heap.size := (Array.getElem?_eq_some_iff.mp hcb).1
    have hX : va_X b xs.length (fun j => xs.getD j 0) s s.heap := ⟨scr, hcb, hof, hkn, hsz, hval⟩
    have K : W p l e room_1 s m #[Value.ref b] below meth c s₁.heap [] 0 0 (lw_Z below #[Value.ref b] s) (entryFrame m ([Value.ref b] : List Value).toArray 4) := by
      rw [hh0]
      exact whole_start l hflags hbd ⟨B.exec, B.bytes, B.returns, hml, hown, hts, hX, hbl, B.notSynchronized, hgv⟩
    obtain ⟨t, a1, o, b1, b2, b3⟩ := K s₁ rfl X₀
    exact ⟨t, o, a1, b1, b2, b3⟩
theorem lw_pre_spec {args : Array Value} {s : State} (h : (Jvm.Cond.and given_1 narrow_1).before args s = true) (hr : rest_1_c.before args s = true) : ∃ (b : Addr) (xs : List Int32), lw_P b xs args s := by
  have hs := flat_of_before _ h
  have hq := flat_of_before _ hr
  have hc : (Cond.count 1).before args s = true := hs _ (by decide +kernel)
  have harr : (Cond.arrayOf (.arg 0) .int).before args s = true := hs _ (by decide +kernel)
  have hle : (Cond.le (.length (.arg 0)) (.int 3072)).before args s = true := hs _ (by decide +kernel)
  have hlen : (Cond.isInt (.length (.arg 0))).before args s = true := hq _ (by decide +kernel)
  have hall : (Cond.all (.arg 0) (.isInt (.elem (.arg 0) (.index 0)))).before args s = true := hq _ (by decide +kernel)
  obtain ⟨b, xs, hb, hx⟩ := State.ints_of_pre rfl harr hlen hall
  have hsm : xs.length < 2 ^ 31 := hx.choose_spec.2.2.2
  have hev : (Term.length (.arg 0)).eval args s none [] s = some (.int xs.length.toInt32) := hx.length_eval hb
  have hv := Cond.le_ints hev (show (Term.int 3072).eval args s none [] s = some (.int 3072) from rfl)
  have hd : xs.length.toInt32 ≤ 3072 := by
    simpa [Cond.before, Cond.holds, hv] using hle
  have hN : xs.length ≤ 3072 := (Int32.ofNat_le_ofNat hsm (by decide)).mp (show Int32.ofNat xs.length ≤ Int32.ofNat 3072 from hd)
  exact ⟨b, xs, Cond.one_arg hc (show args[0]? = some (.ref b) from hb), hx, hN, h⟩
theorem lw_comes (l : Launch) (hflags : l.flags = flags0) : Comes l x (Jvm.Cond.code x code maxLocals ret :: tables_1) room_1 (fun tb e args s => Calls_1 tb e args s ∧ rest_1 tb e args s ∧ Pre_1 tb e args s)
    (fun _ _ args s o t => lw_Q args s o t) := by
  intro p e ha hc hk s m args below hf hfit hheap happ hpre
  obtain ⟨b, xs, hP⟩ := lw_pre_spec hpre.2.2 hpre.2.1
  obtain ⟨k, o, h1, h2, h3, hQ⟩ := lw_walk l hflags b xs p e ha hc hk s m args below hf ((Spec.applies_iff_loose hf).mp happ).1 hP trivial
  exact ⟨k, o, h1, h2, h3, hQ⟩
theorem lw_frame {s t : State} {o : Outcome} {args : Array Value} (h : State.butDraws s t lw_cs (fun t1 => Framed s o t1 [] 600000 7302250)) :
    State.butDraws s t [Jvm.Choice.named "NaN.bits", Jvm.Choice.named "NaN.copy"] (fun t1 => Framed s o t1 (fieldLocs frame_1_writes args s ++ arrayLocs frame_1_arrays args s ++ staticLocs frame_1_statics s) 600000 7302250) := h
theorem lw_limb (L : Cond) (hL : ∀ (args : Array Value) (s t : State), L.after args s (.returned (some (.int 1))) t = true) :
    ArmFor flags0 classFile x code maxLocals ret World_1 tables_1 room_1 Calls_1 rest_1 Pre_1
      (fun tb e a s o t => postC L tb e a s o t ∧ State.butDraws s t [Jvm.Choice.named "NaN.bits", Jvm.Choice.named "NaN.copy"] (fun t1 => Framed s o t1 (fieldLocs frame_1_writes a s ++ arrayLocs frame_1_arrays a s ++ staticLocs frame_1_statics s) 600000 7302250)) := by
  intro l hflags _ _ p e ha hc hk s m args below hf hfit hheap happ hpre
  obtain ⟨k, o, h1, h2, h3, rfl, hF⟩ := lw_comes l hflags p e ha hc hk s m args below hf hfit hheap happ hpre
  exact ⟨k, _, h1, h2, h3, hL args s _, lw_frame hF⟩
theorem i_vc : Claimed_1_1 ∧ Claimed_1_2 := ⟨lw_limb limb_1_1 (fun args s t => by simp [limb_1_1, Cond.after, Cond.holds, Cond.value]), lw_limb limb_1_2 (fun args s t => Cond.after_iff.mpr (by
  first | (rw [show limb_1_2 = Cond.eq .result (.int 1) from rfl, Cond.eq_ints (x := 1) (y := 1) rfl rfl]; simp; done) | (simp [limb_1_2, Cond.value, Term.eval]; done)))⟩
