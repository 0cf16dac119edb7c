/-! ===== making cells, ends, contracts, calls ===== -/
theorem lw_good : ∀ x ∈ lw_gd, (x.onTables && x.keeps) = true ∨ ∃ ty, x = .arrayClass ty := fun x hx => good_of_word (List.mem_filter.mp hx).2
theorem goodC {y : MethodName} {cc : ByteArray} {nL : Nat} {ret : Option FieldType} (h : Cond.code y cc nL ret ∈ lw_gd) : GoodIn lw_gd (Cond.code y cc nL ret :: lw_gd) := fun x hx => by
  rcases List.mem_cons.mp hx with rfl | hx
  · exact ⟨h, lw_good _ h⟩
  · exact ⟨hx, lw_good _ hx⟩
def argL : List Value → List (Option Value)
  | [] => []
  | v :: vs => if v.category = 2 then some v :: none :: argL vs else some v :: argL vs
theorem argL_in : ∀ (vs : List Value) (i n k : Nat) (v : Value), (argL vs ++ List.replicate n none)[k]? = some (some v) → (i + k, v) ∈ lv_args i vs
  | [], i, n, k, v, h => by
    simp only [argL, List.nil_append] at h
    rw [List.getElem?_replicate] at h
    split at h <;> simp at h
  | x :: vs, i, n, k, v, h => by
    unfold argL at h
    unfold lv_args
    by_cases hc : x.category = 2
    · rw [if_pos hc] at h ⊢
      match k, h with
      | 0, h => simp at h; subst h; exact List.mem_cons_self
      | 1, h => simp at h
      | k + 2, h =>
        have := argL_in vs (i + 2) n k v (by simpa using h)
        exact List.mem_cons_of_mem _ (by rw [show i + (k + 2) = i + 2 + k by omega]; exact this)
    · rw [if_neg hc] at h ⊢
      match k, h with
      | 0, h => simp at h; subst h; exact List.mem_cons_self
      | k + 1, h =>
        have := argL_in vs (i + 1) n k v (by simpa using h)
        exact List.mem_cons_of_mem _ (by rw [show i + (k + 1) = i + 1 + k by omega]; exact this)
def CBf (own : String) (idx : Nat) (y : MethodName) (cc : ByteArray) (nL : Nat) (ret : Option FieldType) (n : Nat) : Prop := Cond.code y cc nL ret ∈ lw_gd ∧ Cond.initialized y.cls ∈ lw_gd ∧ (y.cls ≠ "java/lang/invoke/MethodHandle" ∧ y.cls ≠ "java/lang/invoke/VarHandle" ∧ (parseMethodDescriptor y.desc).map (fun d => d.parameters.length) = some n) ∧ Cond.methodLink own idx y ∈ lw_gd
def CBn (own : String) (idx : Nat) (y : MethodName) (cc : ByteArray) (nL : Nat) (ret : Option FieldType) (n : Nat) : Prop := Cond.code y cc nL ret ∈ lw_gd ∧ Cond.initialized y.cls ∈ lw_gd ∧ (y.cls ≠ "java/lang/invoke/MethodHandle" ∧ y.cls ≠ "java/lang/invoke/VarHandle" ∧ (parseMethodDescriptor y.desc).map (fun d => d.parameters.length) = some n) ∧ (own, idx, y) ∈ nsM
theorem CBf.of {own : String} {idx : Nat} {y : MethodName} {cc : ByteArray} {nL : Nat} {ret : Option FieldType} {n : Nat} (h : CBf own idx y cc nL ret n) {R rm : Room} {s : State} {args : Array Value} {mc ms : Nat} (hts : ∀ x ∈ lw_gd, x.before args s = true) (hrc : rm.cells = mc) (hrs : rm.slots = ms) (hR : rm.frames + 1 ≤ R.frames ∧ 8 + (nL + 11) + rm.locals ≤ R.locals) : CallB R s args own idx y cc nL ret (Cond.code y cc nL ret :: lw_gd) rm mc ms n :=
  callB_of n hts (goodC h.1) rfl hrc hrs (hts _ h.2.1) (hts _ h.2.2.2) h.2.2.1 hR
theorem CBn.of {own : String} {idx : Nat} {y : MethodName} {cc : ByteArray} {nL : Nat} {ret : Option FieldType} {n : Nat} (h : CBn own idx y cc nL ret n) {R rm : Room} {s : State} {args : Array Value} {mc ms : Nat} (hN : NN s) (hts : ∀ x ∈ lw_gd, x.before args s = true) (hrc : rm.cells = mc) (hrs : rm.slots = ms) (hR : rm.frames + 1 ≤ R.frames ∧ 8 + (nL + 11) + rm.locals ≤ R.locals) : va_CN R s args own idx y "SeriesPress" cc nL ret (Cond.code y cc nL ret :: lw_gd) rm mc ms n :=
  va_cnB n hts (goodC h.1) rfl hrc hrs (hN.1 _ h.2.2.2) (hts _ h.2.1) h.2.2.1 hR
theorem blindM {w : Wo} {K : Kn} {m : Mem} {av : List Value} : FrameBlind (va_Pc av (fun U => HM w K m U.heap ∧ KK w U)) := fun a U g mk h => ⟨h.1, h.2.1, h.2.2.same rfl⟩
theorem preM {w : Wo} {K : Kn} {m : Mem} {av : List Value} {s : State} {H : Heap} (hM : HM w K m H) (hK : KK w s) : ∀ U : State, U.heap = H → s.WarmedH U.vm → va_Pc av (fun U => HM w K m U.heap ∧ KK w U) av.toArray U := fun U hU hW => ⟨rfl, by rw [hU]; exact hM, hK.warm hW⟩

theorem MetD.ofWF {cs : List Choice} {l : Launch} {y : MethodName} {ws ws' : List Cond} {rm : Room} {Pc : Array Value → State → Prop} {Qc : Array Value → State → Outcome → State → Prop} {mc ms : Nat} {free : Addr → Prop} {cc : ByteArray} {maxL : Nat} {ret : Option FieldType}
    (hy : plainFor y = true) (hw : ws = Cond.code y cc maxL ret :: ws')
    (body : ∀ p e s m args below meth c s₁, BodyLoose p l y (headSpec ws rm) cc maxL ret e s m args below meth c s₁ → c.maxLocals = maxL → Pc args s → s.drawn.sameBut s.drawn cs →
      W p l e (headSpec ws rm).room (s.setDrawn s.drawn) m args below meth c s.heap [] 0 0 (MQD cs below Qc args s mc ms free) (entryFrame m args maxL)) : MetD cs l y ws rm Pc Qc mc ms free := by
  refine MetFree.of_bodySF (code := cc) (maxLocals := maxL) (ret := ret) hy ?_ ?_
  · intro args s m h hn
    obtain ⟨meth, c, h1, h2, h3, h4, h5, h6, -, -⟩ := Cond.code_spec hn (atoms_spec (ws := ws) h _ (by rw [hw]; exact List.mem_cons_self))
    exact ⟨meth, c, h1, h2, h3, h4, h5, h6⟩
  · intro p e s m args below meth c s₁ B hml hP _
    have hh0 : s₁.heap = s.heap := by rw [B.state]; rfl
    have X0 : Stand p l e (headSpec ws rm).room (s.setDrawn s.drawn) m args below meth c s₁ [] 0 0 := Stand.of_body B
    obtain ⟨t, a1, d, hd, o, b1, b2, b3, b4⟩ := body p e s m args below meth c s₁ B hml hP (Drawn.sameBut.refl _ _) s₁ hh0 X0
    exact ⟨t, o, a1, b1, b2, d, hd, b3, b4⟩
section VC
variable {w : Wo} {own : String} {cc : ByteArray} {nL : Nat} {ret : Option FieldType} {rm : Room} {ini : Bool} {Q : Qk} {K : Kn} {pc : Nat} {L : List (Option Value)} {st : List Value} {cl sl : Nat} {m : Mem}
theorem vv_widen {k n : Nat} (h1 : cl ≤ k) (h2 : sl ≤ n) (kk : VV w own cc nL ret rm ini Q K pc L st k n m) : VV w own cc nL ret rm ini Q K pc L st cl sl m := by
  intro p l ev s mth args below meth cd H locs ls d0 hx hb hml hr hk hown hts hin hK hd0 hbs hM hS hL
  exact W.widen h1 h2 (kk p l ev s mth args below meth cd H locs ls d0 hx hb hml hr hk hown hts hin hK hd0 hbs hM hS hL)
theorem vv_fresh (kk : K (szm m) = none → VV w own cc nL ret rm ini Q K pc L st cl sl m) : VV w own cc nL ret rm ini Q K pc L st cl sl m := by
  intro p l ev s mth args below meth cd H locs ls d0 hx hb hml hr hk hown hts hin hK hd0 hbs hM hS hL
  exact kk hM.fresh p l ev s mth args below meth cd H locs ls d0 hx hb hml hr hk hown hts hin hK hd0 hbs hM hS hL
theorem vv_forgetK {K' : Kn} (h : ∀ a k, K' a = some k → K a = some k) (kk : VV w own cc nL ret rm ini Q K' pc L st cl sl m) : VV w own cc nL ret rm ini Q K pc L st cl sl m := by
  intro p l ev s mth args below meth cd H locs ls d0 hx hb hml hr hk hown hts hin hK hd0 hbs hM hS hL
  exact kk p l ev s mth args below meth cd H locs ls d0 hx hb hml hr hk hown hts hin hK hd0 hbs (hM.sub h) hS hL
theorem vv_newI (q N : Nat) {n : Int32} (hd : decode cc pc = .ok (.newarray .int, 2)) (hq : pc + 2 = q) (harr : Cond.arrayClass (newarray.typeOf .int) ∈ lw_gd) (hn : ¬ n < 0) (hN : n.toNatClampNeg = N) (hby : N * componentBytes (newarray.typeOf .int) ≤ 536870912) (hc1 : cl + 1 ≤ rm.cells) (hs1 : sl + N ≤ rm.slots) (kk : VV w own cc nL ret rm ini Q (upK K (szm m) (.inr (0, N))) q L (.ref (szm m) :: st) (cl + 1) (sl + N) (bump m)) : VV w own cc nL ret rm ini Q K pc L (.int n :: st) cl sl m := by
  intro p l ev s mth args below meth cd H locs ls d0 hx hb hml hr hk hown hts hin hK hd0 hbs hM hS hL
  subst hq
  refine va_newaK hx hb (dr_words hts d0 _ harr) rfl hd rfl hn hN hby hc1 hs1 hM.1 fun H1 cA e1 z1 o1 hAr hNm => ?_
  have hcA : cA = w.2.1 0 := Option.some.inj (hNm.symm.trans ((sd_KK (d := d0) hK).1.2 0 _ rfl).2)
  subst hcA
  refine kk p l ev s mth args below meth cd H1 _ ls d0 hx hb hml hr hk hown hts hin hK hd0 hbs (hM.new (k := .inr (0, N)) (by rw [z1, hM.1]) (fun x hx => o1 x (by rw [← hM.1]; exact hx)) ?_) ⟨by have h7 := hM.1; have h8 := hS.1; omega, fun x h1 h2 => (o1 x (by have h7 := hM.1; have h8 := hS.1; omega)).trans (hS.2.1 x h1 h2), hS.2.2⟩ hL
  show H1[szm m]? = some (arrV _ N (fun j => .int (gI (bump m) (szm m) j)))
  rw [e1]
  have : (fun j => Value.int (gI (bump m) (szm m) j)) = fun _ => defaultValue (newarray.typeOf .int) := by funext j; simp [gI, bump, szm, newarray.typeOf, defaultValue]
  rw [this]
theorem vv_newJ (q N : Nat) {n : Int32} (hd : decode cc pc = .ok (.newarray .long, 2)) (hq : pc + 2 = q) (harr : Cond.arrayClass (newarray.typeOf .long) ∈ lw_gd) (hn : ¬ n < 0) (hN : n.toNatClampNeg = N) (hby : N * componentBytes (newarray.typeOf .long) ≤ 536870912) (hc1 : cl + 1 ≤ rm.cells) (hs1 : sl + N ≤ rm.slots) (kk : VV w own cc nL ret rm ini Q (upK K (szm m) (.inr (1, N))) q L (.ref (szm m) :: st) (cl + 1) (sl + N) (bump m)) : VV w own cc nL ret rm ini Q K pc L (.int n :: st) cl sl m := by
  intro p l ev s mth args below meth cd H locs ls d0 hx hb hml hr hk hown hts hin hK hd0 hbs hM hS hL
  subst hq
  refine va_newaK hx hb (dr_words hts d0 _ harr) rfl hd rfl hn hN hby hc1 hs1 hM.1 fun H1 cA e1 z1 o1 hAr hNm => ?_
  have hcA : cA = w.2.1 1 := Option.some.inj (hNm.symm.trans ((sd_KK (d := d0) hK).1.2 1 _ rfl).2)
  subst hcA
  refine kk p l ev s mth args below meth cd H1 _ ls d0 hx hb hml hr hk hown hts hin hK hd0 hbs (hM.new (k := .inr (1, N)) (by rw [z1, hM.1]) (fun x hx => o1 x (by rw [← hM.1]; exact hx)) ?_) ⟨by have h7 := hM.1; have h8 := hS.1; omega, fun x h1 h2 => (o1 x (by have h7 := hM.1; have h8 := hS.1; omega)).trans (hS.2.1 x h1 h2), hS.2.2⟩ hL
  show H1[szm m]? = some (arrV _ N (fun j => .long (gJ (bump m) (szm m) j)))
  rw [e1]
  have : (fun j => Value.long (gJ (bump m) (szm m) j)) = fun _ => defaultValue (newarray.typeOf .long) := by funext j; simp [gJ, bump, szm, newarray.typeOf, defaultValue]
  rw [this]
theorem vv_newZ (q N : Nat) {n : Int32} (hd : decode cc pc = .ok (.newarray .boolean, 2)) (hq : pc + 2 = q) (harr : Cond.arrayClass (newarray.typeOf .boolean) ∈ lw_gd) (hn : ¬ n < 0) (hN : n.toNatClampNeg = N) (hby : N * componentBytes (newarray.typeOf .boolean) ≤ 536870912) (hc1 : cl + 1 ≤ rm.cells) (hs1 : sl + N ≤ rm.slots) (kk : VV w own cc nL ret rm ini Q (upK K (szm m) (.inr (2, N))) q L (.ref (szm m) :: st) (cl + 1) (sl + N) (bump m)) : VV w own cc nL ret rm ini Q K pc L (.int n :: st) cl sl m := by
  intro p l ev s mth args below meth cd H locs ls d0 hx hb hml hr hk hown hts hin hK hd0 hbs hM hS hL
  subst hq
  refine va_newaK hx hb (dr_words hts d0 _ harr) rfl hd rfl hn hN hby hc1 hs1 hM.1 fun H1 cA e1 z1 o1 hAr hNm => ?_
  have hcA : cA = w.2.1 2 := Option.some.inj (hNm.symm.trans ((sd_KK (d := d0) hK).1.2 2 _ rfl).2)
  subst hcA
  refine kk p l ev s mth args below meth cd H1 _ ls d0 hx hb hml hr hk hown hts hin hK hd0 hbs (hM.new (k := .inr (2, N)) (by rw [z1, hM.1]) (fun x hx => o1 x (by rw [← hM.1]; exact hx)) ?_) ⟨by have h7 := hM.1; have h8 := hS.1; omega, fun x h1 h2 => (o1 x (by have h7 := hM.1; have h8 := hS.1; omega)).trans (hS.2.1 x h1 h2), hS.2.2⟩ hL
  show H1[szm m]? = some (arrV _ N (fun j => .int (gI (bump m) (szm m) j)))
  rw [e1]
  have : (fun j => Value.int (gI (bump m) (szm m) j)) = fun _ => defaultValue (newarray.typeOf .boolean) := by funext j; simp [gI, bump, szm, newarray.typeOf, defaultValue]
  rw [this]
theorem vv_anew3 (q N : Nat) {idx : Nat} {n : Int32} (hd : decode cc pc = .ok (.anewarray idx, 3)) (hq : pc + 3 = q) (hl : Cond.classLink own idx "SeriesPress$Series" ∈ lw_gd) (hn : ¬ n < 0) (hN : n.toNatClampNeg = N) (hby : N * 4 ≤ 536870912) (hc1 : cl + 1 ≤ rm.cells) (hs1 : sl + N ≤ rm.slots) (kk : VV w own cc nL ret rm ini Q (upK K (szm m) (.inr (3, N))) q L (.ref (szm m) :: st) (cl + 1) (sl + N) (bump m)) : VV w own cc nL ret rm ini Q K pc L (.int n :: st) cl sl m := by
  intro p l ev s mth args below meth cd H locs ls d0 hx hb hml hr hk hown hts hin hK hd0 hbs hM hS hL
  subst hq
  subst hN
  have hown' : (s.setDrawn d0).vm.findClass own = some mth.cls := hown
  refine W.anew (s := s.setDrawn d0) hx hb hown' (dr_words hts d0 _ hl) (va_AO.use (sd_KK (d := d0) hK).2.2.2.2.2.1) rfl hd rfl hn hby hc1 hs1 fun cA kA comp f1 f2 f3 f4 => ?_
  have hcA : cA = w.2.1 3 := by
    obtain ⟨_, _, -, -, -, h4⟩ := ((sd_KK (d := d0) hK).1.2 3 _ rfl).2
    exact Option.some.inj (f1.symm.trans h4)
  subst hcA
  generalize hH1 : H.push ({ cls := w.2.1 3, slots := Array.replicate n.toNatClampNeg .null, vm := .none } : Cell) = H1
  have z1 : H1.size = H.size + 1 := by rw [← hH1, Array.size_push]
  have e1 : H1[H.size]? = some (arrV (w.2.1 3) n.toNatClampNeg (fun _ => .null)) := by rw [← hH1, Array.getElem?_push_size, ← arrV_new]
  have o1 : ∀ q : Nat, q < H.size → H1[q]? = H[q]? := fun q hq => by rw [← hH1, Array.getElem?_push, if_neg (Nat.ne_of_lt hq)]
  rw [hM.1] at e1 ⊢
  refine kk p l ev s mth args below meth cd H1 _ ls d0 hx hb hml hr hk hown hts hin hK hd0 hbs (hM.new (k := .inr (3, n.toNatClampNeg)) z1 o1 ?_) ⟨by have h8 := hS.1; omega, fun x h1 h2 => (o1 x (Nat.lt_of_lt_of_le h1 hS.1)).trans (hS.2.1 x h1 h2), hS.2.2⟩ hL
  show H1[szm m]? = some (arrV _ _ (fun j => va_rf (gR (bump m) (szm m) j)))
  rw [e1]
  have : (fun j => va_rf (gR (bump m) (szm m) j)) = fun _ => Value.null := by funext j; simp [gR, bump, szm, va_rf]
  rw [this]
theorem vv_anew4 (q N : Nat) {idx : Nat} {n : Int32} (hd : decode cc pc = .ok (.anewarray idx, 3)) (hq : pc + 3 = q) (hl : Cond.classLink own idx "SeriesPress$Block" ∈ lw_gd) (hn : ¬ n < 0) (hN : n.toNatClampNeg = N) (hby : N * 4 ≤ 536870912) (hc1 : cl + 1 ≤ rm.cells) (hs1 : sl + N ≤ rm.slots) (kk : VV w own cc nL ret rm ini Q (upK K (szm m) (.inr (4, N))) q L (.ref (szm m) :: st) (cl + 1) (sl + N) (bump m)) : VV w own cc nL ret rm ini Q K pc L (.int n :: st) cl sl m := by
  intro p l ev s mth args below meth cd H locs ls d0 hx hb hml hr hk hown hts hin hK hd0 hbs hM hS hL
  subst hq
  subst hN
  have hown' : (s.setDrawn d0).vm.findClass own = some mth.cls := hown
  refine W.anew (s := s.setDrawn d0) hx hb hown' (dr_words hts d0 _ hl) (va_AO.use (sd_KK (d := d0) hK).2.2.2.2.2.2) rfl hd rfl hn hby hc1 hs1 fun cA kA comp f1 f2 f3 f4 => ?_
  have hcA : cA = w.2.1 4 := by
    obtain ⟨_, _, -, -, -, h4⟩ := ((sd_KK (d := d0) hK).1.2 4 _ rfl).2
    exact Option.some.inj (f1.symm.trans h4)
  subst hcA
  generalize hH1 : H.push ({ cls := w.2.1 4, slots := Array.replicate n.toNatClampNeg .null, vm := .none } : Cell) = H1
  have z1 : H1.size = H.size + 1 := by rw [← hH1, Array.size_push]
  have e1 : H1[H.size]? = some (arrV (w.2.1 4) n.toNatClampNeg (fun _ => .null)) := by rw [← hH1, Array.getElem?_push_size, ← arrV_new]
  have o1 : ∀ q : Nat, q < H.size → H1[q]? = H[q]? := fun q hq => by rw [← hH1, Array.getElem?_push, if_neg (Nat.ne_of_lt hq)]
  rw [hM.1] at e1 ⊢
  refine kk p l ev s mth args below meth cd H1 _ ls d0 hx hb hml hr hk hown hts hin hK hd0 hbs (hM.new (k := .inr (4, n.toNatClampNeg)) z1 o1 ?_) ⟨by have h8 := hS.1; omega, fun x h1 h2 => (o1 x (Nat.lt_of_lt_of_le h1 hS.1)).trans (hS.2.1 x h1 h2), hS.2.2⟩ hL
  show H1[szm m]? = some (arrV _ _ (fun j => va_rf (gR (bump m) (szm m) j)))
  rw [e1]
  have : (fun j => va_rf (gR (bump m) (szm m) j)) = fun _ => Value.null := by funext j; simp [gR, bump, szm, va_rf]
  rw [this]
theorem vlF_bump {m : Mem} {ty : FieldType} (h1 : ty ≠ .float) (h2 : ty ≠ .double) (j : Nat) : defaultValue ty = vlF (bump m) ty (szm m) j := by
  cases ty <;> simp [vlF, defaultValue, gI, gJ, gR, bump, szm, va_rf] at h1 h2 ⊢
theorem vv_new (q : Nat) {idx ci : Nat} {C : String} {T : u_T} {N : Nat} (hd : decode cc pc = .ok (.new idx, 3)) (hq : pc + 3 = q) (hc : vwCl[ci]? = some (C, T, N)) (hin0 : ∀ x ∈ u_ws C T N, x ∈ lw_gd) (hty : ∀ k, k < N → parseFieldDescriptor (T k).2.2.1 = some (tyOf ci k)) (hnf : ∀ k, k < N → tyOf ci k ≠ .float ∧ tyOf ci k ≠ .double) (hl : Cond.classLink own idx C ∈ lw_gd) (hi : Cond.instantiable C N ∈ lw_gd) (hi2 : Cond.initialized C ∈ lw_gd) (hc1 : cl + 1 ≤ rm.cells) (hs1 : sl + N ≤ rm.slots) (kk : VV w own cc nL ret rm ini Q (upK K (szm m) (.inl ci)) q L (.ref (szm m) :: st) (cl + 1) (sl + N) (bump m)) : VV w own cc nL ret rm ini Q K pc L st cl sl m := by
  intro p l ev s mth args below meth cd H locs ls d0 hx hb hml hr hk hown hts hin hK hd0 hbs hM hS hL
  subst hq
  have hts' := dr_words hts d0
  have hown' : (s.setDrawn d0).vm.findClass own = some mth.cls := hown
  have hKn := (sd_KK (d := d0) hK).1.1 ci _ hc
  refine W.newcK (s := s.setDrawn d0) hx hb hown' (hts' _ hl) (hts' _ hi) (hts' _ hi2) rfl hd hc1 hs1 hKn.2.1 hM.1 fun H1 kC hkC e1 z1 o1 => ?_
  refine kk p l ev s mth args below meth cd H1 _ ls d0 hx hb hml hr hk hown hts hin hK hd0 hbs (hM.new (k := .inl ci) (by rw [z1, hM.1]) (fun x hx => o1 x (by rw [← hM.1]; exact hx)) ?_) ⟨by have h7 := hM.1; have h8 := hS.1; omega, fun x h1 h2 => (o1 x (by have h7 := hM.1; have h8 := hS.1; omega)).trans (hS.2.1 x h1 h2), hS.2.2⟩ hL
  exact ⟨_, hc, (u_born (tyOf ci) hts' hin0 hKn hkC e1 hty).to (fun j hj => vlF_bump (hnf j hj).1 (hnf j hj).2 j)⟩
theorem vv_objInit (q : Nat) {idx a : Nat} (hd : decode cc pc = .ok (.invokespecial idx, 3)) (hq : pc + 3 = q) (hl : Cond.methodLink own idx Lib.objectInit ∈ lw_gd) (hi : Cond.instanceMethod Lib.objectInit ∈ lw_gd) (hco : Cond.code Lib.objectInit ⟨#[0xb1]⟩ 1 none ∈ lw_gd) (hf : 1 ≤ rm.frames) (hlo : (st.map fun v => v.category).sum + 12 ≤ rm.locals) (kk : VV w own cc nL ret rm ini Q K q L st cl sl m) : VV w own cc nL ret rm ini Q K pc L (.ref a :: st) cl sl m := by
  intro p l ev s mth args below meth cd H locs ls d0 hx hb hml hr hk hown hts hin hK hd0 hbs hM hS hL
  subst hq
  have hts' := dr_words hts d0
  have hown' : (s.setDrawn d0).vm.findClass own = some mth.cls := hown
  exact W.objInit (s := s.setDrawn d0) hx hb hown' (hts' _ hl) (hts' _ hi) (hts' _ hco) rfl (hL.1.trans hml.symm) rfl hd hf (by show 2 * 0 + _ + _ ≤ _; omega) (kk p l ev s mth args below meth cd H locs ls d0 hx hb hml hr hk hown hts hin hK hd0 hbs hM hS hL)
theorem vv_iret {v : Int32} (hd : decode cc pc = .ok (.ireturn, 1)) (hret : ret = some .int) : VV w own cc nL ret rm ini (QM w K (some (.int v)) m cl sl) K pc L [.int v] cl sl m := by
  intro p l ev s mth args below meth cd H locs ls d0 hx hb hml hr hk hown hts hin hK hd0 hbs hM hS hL
  subst hret
  exact W.endD hd0 (W.iret (s := s.setDrawn d0) hx hb hr (fun t ht hW => ⟨⟨rfl, by rw [ht]; exact hM⟩, hS.F (s := s.setDrawn d0) ht⟩) (fun z hz => hS.2.2 z hz) hd hk)
theorem vv_zret {v : Int32} (hd : decode cc pc = .ok (.ireturn, 1)) (hret : ret = some .boolean) (hz : v = 0 ∨ v = 1) : VV w own cc nL ret rm ini (QM w K (some (.int v)) m cl sl) K pc L [.int v] cl sl m := by
  intro p l ev s mth args below meth cd H locs ls d0 hx hb hml hr hk hown hts hin hK hd0 hbs hM hS hL
  subst hret
  exact W.endD hd0 (W.zret (s := s.setDrawn d0) hx hb hr (narrow_bz hz) (fun t ht hW => ⟨⟨rfl, by rw [ht]; exact hM⟩, hS.F (s := s.setDrawn d0) ht⟩) (fun z hz => hS.2.2 z hz) hd hk)
theorem vv_lret {v : Int64} (hd : decode cc pc = .ok (.lreturn, 1)) (hret : ret = some .long) : VV w own cc nL ret rm ini (QM w K (some (.long v)) m cl sl) K pc L [.long v] cl sl m := by
  intro p l ev s mth args below meth cd H locs ls d0 hx hb hml hr hk hown hts hin hK hd0 hbs hM hS hL
  subst hret
  exact W.endD hd0 (W.lret (s := s.setDrawn d0) hx hb hr (fun t ht hW => ⟨⟨rfl, by rw [ht]; exact hM⟩, hS.F (s := s.setDrawn d0) ht⟩) (fun z hz => hS.2.2 z hz) hd hk)
theorem vv_vret (hd : decode cc pc = .ok (.return_, 1)) (hret : ret = none) : VV w own cc nL ret rm ini (QM w K none m cl sl) K pc L [] cl sl m := by
  intro p l ev s mth args below meth cd H locs ls d0 hx hb hml hr hk hown hts hin hK hd0 hbs hM hS hL
  subst hret
  exact W.endD hd0 (W.vret (s := s.setDrawn d0) hx hb hr (fun t ht hW => ⟨⟨rfl, by rw [ht]; exact hM⟩, hS.F (s := s.setDrawn d0) ht⟩) (fun z hz => hS.2.2 z hz) hd hk)
theorem vv_aret {v : Value} {rt : FieldType} (hd : decode cc pc = .ok (.areturn, 1)) (hret : ret = some rt) (hrt : (∃ n, rt = .object n) ∨ ∃ t, rt = .array t) (hv : v = .null ∨ ∃ a, v = .ref a) : VV w own cc nL ret rm ini (QM w K (some v) m cl sl) K pc L [v] cl sl m := by
  intro p l ev s mth args below meth cd H locs ls d0 hx hb hml hr hk hown hts hin hK hd0 hbs hM hS hL
  subst hret
  exact W.endD hd0 (W.aret (s := s.setDrawn d0) hx hb hr hrt hv (fun t ht hW => ⟨⟨rfl, by rw [ht]; exact hM⟩, hS.F (s := s.setDrawn d0) ht⟩) (fun z hz => hS.2.2 z hz) hd hk)
theorem mm_of {K' : Kn} {y : MethodName} {av : List Value} {r : Option Value} {m' : Mem} {mc ms n : Nat} (hy : plainFor y = true) (hyc : y.cls = own) (hyi : ini = true → y.name = "<init>") (hn : (lg_sl av).length ≤ nL) (hL0 : argL av ++ List.replicate n none = L) (body : VV w own cc nL ret rm ini (QM w K' r m' mc ms) K 0 L [] 0 0 m) : MM w K K' y cc nL ret rm av m r m' mc ms := by
  intro l
  refine MetD.ofWF (cc := cc) (maxL := nL) (ret := ret) hy rfl ?_
  intro p e s mth args below meth c s₁ B hml hv hd0
  obtain ⟨rfl, hM, hK⟩ := hv
  subst hyc
  subst hL0
  have hts := atoms_spec (ws := Cond.code y cc nL ret :: lw_gd) B.pre
  have hl := lv_entry av (n := nL) hn
  rw [lg_entry_eq]
  exact body p l e s mth _ below meth c s.heap [] _ s.drawn B.exec B.bytes hml B.returns B.notSynchronized (findClass_of_methodNamed B.named) (fun x hx => hts x (List.mem_cons_of_mem _ hx)) (fun h => (name_of_methodNamed B.named B.method).1.trans (hyi h)) hK hd0 hM.2.1 hM va_S.rf ⟨hl.1, hl.2.1, fun k v hk => hl.2.2 (k, v) (by simpa using argL_in av 0 n k v hk)⟩
theorem w_back {p : Program} {l : Launch} {ev : Env} {s : State} {mth : MethodId} {args : Array Value} {below : List Frame} {meth : Method} {cd : Code} {H : Heap} {locs : List Loc} {ls : Array Slot} {d0 : Drawn} {K' : Kn} {r : Option Value} {m1 : Mem} {mc ms : Nat} {a : Array Value} {st0 rest : List Value}
    (hx : p.tables.exec = Jvm.exec) (hb : cd.code = cc) (hml : cd.maxLocals = nL) (hr : meth.sig.returnType = ret) (hk : meth.locks = false) (hown : s.vm.findClass own = some mth.cls) (hts : ∀ x ∈ lw_gd, x.before args s = true) (hin : ini = true → meth.name = "<init>") (hK : KK w s) (hd0 : s.drawn.sameBut d0 lw_cs) (hbs : w.2.2.1.size ≤ s.heap.size) (hM : HM w K m H) (hS : va_S (Aw w) s.heap H locs) (hL : lvh ls nL L)
    (hrun : va_RunD lw_cs p l ev rm (s.setDrawn d0) mth args below meth cd H locs cl sl mc ms (F0 mth pc ls st0) rest (QC w K' r m1 a) (Aw w)) (kk : VV w own cc nL ret rm ini Q K' (pc + 3) L (r.toList ++ rest) (cl + mc) (sl + ms) m1) : W p l ev rm (s.setDrawn d0) mth args below meth cd H locs cl sl (Q below args s) (F0 mth pc ls st0) := by
  intro T hT X
  obtain ⟨v, st₀, t, T', L', d', hd', h0, X', hL', e1, e2, ⟨⟨hv, hM1⟩, hz, hkk⟩, st⟩ := hrun T hT X
  cases hv
  rw [h0] at hz hkk
  have hd2 : s.drawn.sameBut d' lw_cs := hd0.trans hd'
  obtain ⟨t2, a1, b1⟩ := kk p l ev s mth args below meth cd T'.heap (locs ++ L') ls d' hx hb hml hr hk hown hts hin hK hd2 hbs (by rw [e1]; exact hM1)
    ⟨Nat.le_trans hS.1 (by rw [e1]; exact hz), fun q h1 h2 => by rw [e1, hkk q (Nat.lt_of_lt_of_le h1 hS.1) h2]; exact hS.2.1 q h1 h2, fun q hq => by
      rcases List.mem_append.mp hq with h | h
      · exact hS.2.2 q h
      · exact hL' q h⟩ hL T' rfl X'
  exact ⟨t2, st t2 a1, b1⟩
theorem vv_callV (q : Nat) {stk2 : List Value} {cl2 sl2 : Nat} {K' : Kn} {y : MethodName} {cc' : ByteArray} {nL' : Nat} {ret' : Option FieldType} {rm' : Room} {r : Option Value} {m1 : Mem} {mc ms n idx : Nat} {As : List Value} {stk : List Value} {b ci : Nat} {C : String} {T : u_T} {N : Nat} (hd : decode cc pc = .ok (.invokevirtual idx, 3)) (hq : pc + 3 = q) (hlk : CBf own idx y cc' nL' ret' n) (hin1 : Cond.instanceMethod y ∈ lw_gd) (hse : Cond.selects C y y ∈ lw_gd) (hc : vwCl[ci]? = some (C, T, N)) (hb1 : K b = some (.inl ci)) (hR : rm'.frames + 1 ≤ rm.frames ∧ 8 + (nL' + 11) + rm'.locals ≤ rm.locals) (hrc : rm'.cells = mc) (hrs : rm'.slots = ms) (hcs : cl + mc ≤ rm.cells ∧ sl + ms ≤ rm.slots) (hn : As.length = n) (hW : (st.map fun v => v.category).sum ≤ 8) (hstk : stk = As.reverse ++ .ref b :: st) (hs2 : r.toList ++ st = stk2) (hc2 : cl + mc = cl2) (hl2 : sl + ms = sl2) (hMM : MM w K K' y cc' nL' ret' rm' (.ref b :: As) m r m1 mc ms) (kk : VV w own cc nL ret rm ini Q K' q L stk2 cl2 sl2 m1) : VV w own cc nL ret rm ini Q K pc L stk cl sl m := by
  intro p l ev s mth args below meth cd H locs ls d0 hx hb hml hr hk hown hts hin hK hd0 hbs hM hS hL
  subst hq
  subst hs2
  subst hc2
  subst hl2
  have hts' := dr_words hts d0
  have hown' : (s.setDrawn d0).vm.findClass own = some mth.cls := hown
  obtain ⟨-, r', h1, cell, g1, g2, g3, -⟩ := hM.2.2.2 b _ hb1
  have hcls : (s.setDrawn d0).vm.findClass C = some cell.cls := by rw [g2]; exact ((sd_KK (d := d0) hK).1.1 ci _ hc).2.1
  exact w_back hx hb hml hr hk hown hts hin hK hd0 hbs hM hS hL (va_runV_D (As := As) (rest := st) ⟨hx, hb, hml, hown', hts'⟩ (hMM l) ⟨hlk.of hts' hrc hrs hR, hts' _ hin1, hts' _ hse⟩ ⟨blindM, ⟨cell, g1, by rw [g3]; rfl, hcls⟩, preM hM (sd_KK hK)⟩ rfl hn hL.1 hstk (lv_room hW) hd hcs) kk
theorem vv_callVN (q : Nat) {stk2 : List Value} {cl2 sl2 : Nat} {K' : Kn} {y : MethodName} {cc' : ByteArray} {nL' : Nat} {ret' : Option FieldType} {rm' : Room} {r : Option Value} {m1 : Mem} {mc ms n idx : Nat} {As : List Value} {stk : List Value} {b ci : Nat} {C : String} {T : u_T} {N : Nat} (hd : decode cc pc = .ok (.invokevirtual idx, 3)) (hq : pc + 3 = q) (hlk : CBn own idx y cc' nL' ret' n) (hin1 : Cond.instanceMethod y ∈ lw_gd) (hse : Cond.selects C y y ∈ lw_gd) (hc : vwCl[ci]? = some (C, T, N)) (hb1 : K b = some (.inl ci)) (hR : rm'.frames + 1 ≤ rm.frames ∧ 8 + (nL' + 11) + rm'.locals ≤ rm.locals) (hrc : rm'.cells = mc) (hrs : rm'.slots = ms) (hcs : cl + mc ≤ rm.cells ∧ sl + ms ≤ rm.slots) (hn : As.length = n) (hW : (st.map fun v => v.category).sum ≤ 8) (hstk : stk = As.reverse ++ .ref b :: st) (hs2 : r.toList ++ st = stk2) (hc2 : cl + mc = cl2) (hl2 : sl + ms = sl2) (hMM : MM w K K' y cc' nL' ret' rm' (.ref b :: As) m r m1 mc ms) (kk : VV w own cc nL ret rm ini Q K' q L stk2 cl2 sl2 m1) : VV w own cc nL ret rm ini Q K pc L stk cl sl m := by
  intro p l ev s mth args below meth cd H locs ls d0 hx hb hml hr hk hown hts hin hK hd0 hbs hM hS hL
  subst hq
  subst hs2
  subst hc2
  subst hl2
  have hts' := dr_words hts d0
  have hown' : (s.setDrawn d0).vm.findClass own = some mth.cls := hown
  obtain ⟨-, r', h1, cell, g1, g2, g3, -⟩ := hM.2.2.2 b _ hb1
  have hcls : (s.setDrawn d0).vm.findClass C = some cell.cls := by rw [g2]; exact ((sd_KK (d := d0) hK).1.1 ci _ hc).2.1
  exact w_back hx hb hml hr hk hown hts hin hK hd0 hbs hM hS hL (va_runVN_D (As := As) (rest := st) ⟨hx, hb, hml, hown', hts'⟩ (hMM l) ⟨hlk.of (sd_KK (d := d0) hK).2.2.2 hts' hrc hrs hR, hts' _ hin1, hts' _ hse⟩ ⟨blindM, ⟨cell, g1, by rw [g3]; rfl, hcls⟩, preM hM (sd_KK hK)⟩ rfl hn hL.1 hstk (lv_room hW) hd hcs) kk
theorem vv_callS (q : Nat) {stk2 : List Value} {cl2 sl2 : Nat} {K' : Kn} {y : MethodName} {cc' : ByteArray} {nL' : Nat} {ret' : Option FieldType} {rm' : Room} {r : Option Value} {m1 : Mem} {mc ms n idx : Nat} {As : List Value} {stk : List Value} (hd : decode cc pc = .ok (.invokestatic idx, 3)) (hq : pc + 3 = q) (hlk : CBf own idx y cc' nL' ret' n) (hst : Cond.static y ∈ lw_gd) (hR : rm'.frames + 1 ≤ rm.frames ∧ 8 + (nL' + 11) + rm'.locals ≤ rm.locals) (hrc : rm'.cells = mc) (hrs : rm'.slots = ms) (hcs : cl + mc ≤ rm.cells ∧ sl + ms ≤ rm.slots) (hn : As.length = n) (hW : (st.map fun v => v.category).sum ≤ 8) (hstk : stk = As.reverse ++ st) (hs2 : r.toList ++ st = stk2) (hc2 : cl + mc = cl2) (hl2 : sl + ms = sl2) (hMM : MM w K K' y cc' nL' ret' rm' As m r m1 mc ms) (kk : VV w own cc nL ret rm ini Q K' q L stk2 cl2 sl2 m1) : VV w own cc nL ret rm ini Q K pc L stk cl sl m := by
  intro p l ev s mth args below meth cd H locs ls d0 hx hb hml hr hk hown hts hin hK hd0 hbs hM hS hL
  subst hq
  subst hs2
  subst hc2
  subst hl2
  have hts' := dr_words hts d0
  have hown' : (s.setDrawn d0).vm.findClass own = some mth.cls := hown
  exact w_back hx hb hml hr hk hown hts hin hK hd0 hbs hM hS hL (va_runS_D (As := As) (rest := st) ⟨hx, hb, hml, hown', hts'⟩ (hMM l) ⟨hlk.of hts' hrc hrs hR, hts' _ hst⟩ ⟨blindM, preM hM (sd_KK hK)⟩ rfl hn hL.1 hstk (lv_room hW) hd hcs) kk
theorem vv_callSN (q : Nat) {stk2 : List Value} {cl2 sl2 : Nat} {K' : Kn} {y : MethodName} {cc' : ByteArray} {nL' : Nat} {ret' : Option FieldType} {rm' : Room} {r : Option Value} {m1 : Mem} {mc ms n idx : Nat} {As : List Value} {stk : List Value} (hd : decode cc pc = .ok (.invokestatic idx, 3)) (hq : pc + 3 = q) (hlk : CBn own idx y cc' nL' ret' n) (hst : Cond.static y ∈ lw_gd) (hR : rm'.frames + 1 ≤ rm.frames ∧ 8 + (nL' + 11) + rm'.locals ≤ rm.locals) (hrc : rm'.cells = mc) (hrs : rm'.slots = ms) (hcs : cl + mc ≤ rm.cells ∧ sl + ms ≤ rm.slots) (hn : As.length = n) (hW : (st.map fun v => v.category).sum ≤ 8) (hstk : stk = As.reverse ++ st) (hs2 : r.toList ++ st = stk2) (hc2 : cl + mc = cl2) (hl2 : sl + ms = sl2) (hMM : MM w K K' y cc' nL' ret' rm' As m r m1 mc ms) (kk : VV w own cc nL ret rm ini Q K' q L stk2 cl2 sl2 m1) : VV w own cc nL ret rm ini Q K pc L stk cl sl m := by
  intro p l ev s mth args below meth cd H locs ls d0 hx hb hml hr hk hown hts hin hK hd0 hbs hM hS hL
  subst hq
  subst hs2
  subst hc2
  subst hl2
  have hts' := dr_words hts d0
  have hown' : (s.setDrawn d0).vm.findClass own = some mth.cls := hown
  exact w_back hx hb hml hr hk hown hts hin hK hd0 hbs hM hS hL (va_runSN_D (As := As) (rest := st) ⟨hx, hb, hml, hown', hts'⟩ (hMM l) ⟨hlk.of (sd_KK (d := d0) hK).2.2.2 hts' hrc hrs hR, hts' _ hst, trivial⟩ ⟨blindM, preM hM (sd_KK hK)⟩ rfl hn hL.1 hstk (lv_room hW) hd hcs) kk
theorem vv_callI (q : Nat) {stk2 : List Value} {cl2 sl2 : Nat} {K' : Kn} {y : MethodName} {cc' : ByteArray} {nL' : Nat} {rm' : Room} {r : Option Value} {m1 : Mem} {mc ms n idx : Nat} {As : List Value} {stk : List Value} {b : Nat} (hd : decode cc pc = .ok (.invokespecial idx, 3)) (hq : pc + 3 = q) (hlk : CBf own idx y cc' nL' none n) (hin1 : Cond.instanceMethod y ∈ lw_gd) (hyn : y.name = "<init>") (hR : rm'.frames + 1 ≤ rm.frames ∧ 8 + (nL' + 11) + rm'.locals ≤ rm.locals) (hrc : rm'.cells = mc) (hrs : rm'.slots = ms) (hcs : cl + mc ≤ rm.cells ∧ sl + ms ≤ rm.slots) (hn : As.length = n) (hW : (st.map fun v => v.category).sum ≤ 8) (hstk : stk = As.reverse ++ .ref b :: st) (hs2 : r.toList ++ st = stk2) (hc2 : cl + mc = cl2) (hl2 : sl + ms = sl2) (hMM : MM w K K' y cc' nL' none rm' (.ref b :: As) m r m1 mc ms) (kk : VV w own cc nL ret rm ini Q K' q L stk2 cl2 sl2 m1) : VV w own cc nL ret rm ini Q K pc L stk cl sl m := by
  intro p l ev s mth args below meth cd H locs ls d0 hx hb hml hr hk hown hts hin hK hd0 hbs hM hS hL
  subst hq
  subst hs2
  subst hc2
  subst hl2
  have hts' := dr_words hts d0
  have hown' : (s.setDrawn d0).vm.findClass own = some mth.cls := hown
  exact w_back hx hb hml hr hk hown hts hin hK hd0 hbs hM hS hL (va_runI_D (As := As) (rest := st) ⟨hx, hb, hml, hown', hts'⟩ (hMM l) ⟨hlk.of hts' hrc hrs hR, hyn, hts' _ hin1⟩ ⟨blindM, preM hM (sd_KK hK)⟩ rfl hn hL.1 hstk (lv_room hW) hd hcs) kk
theorem vv_callIN (q : Nat) {stk2 : List Value} {cl2 sl2 : Nat} {K' : Kn} {y : MethodName} {cc' : ByteArray} {nL' : Nat} {rm' : Room} {r : Option Value} {m1 : Mem} {mc ms n idx : Nat} {As : List Value} {stk : List Value} {b : Nat} (hd : decode cc pc = .ok (.invokespecial idx, 3)) (hq : pc + 3 = q) (hlk : CBn own idx y cc' nL' none n) (hin1 : Cond.instanceMethod y ∈ lw_gd) (hyn : y.name = "<init>") (hR : rm'.frames + 1 ≤ rm.frames ∧ 8 + (nL' + 11) + rm'.locals ≤ rm.locals) (hrc : rm'.cells = mc) (hrs : rm'.slots = ms) (hcs : cl + mc ≤ rm.cells ∧ sl + ms ≤ rm.slots) (hn : As.length = n) (hW : (st.map fun v => v.category).sum ≤ 8) (hstk : stk = As.reverse ++ .ref b :: st) (hs2 : r.toList ++ st = stk2) (hc2 : cl + mc = cl2) (hl2 : sl + ms = sl2) (hMM : MM w K K' y cc' nL' none rm' (.ref b :: As) m r m1 mc ms) (kk : VV w own cc nL ret rm ini Q K' q L stk2 cl2 sl2 m1) : VV w own cc nL ret rm ini Q K pc L stk cl sl m := by
  intro p l ev s mth args below meth cd H locs ls d0 hx hb hml hr hk hown hts hin hK hd0 hbs hM hS hL
  subst hq
  subst hs2
  subst hc2
  subst hl2
  have hts' := dr_words hts d0
  have hown' : (s.setDrawn d0).vm.findClass own = some mth.cls := hown
  exact w_back hx hb hml hr hk hown hts hin hK hd0 hbs hM hS hL (va_runIN_D (As := As) (rest := st) ⟨hx, hb, hml, hown', hts'⟩ (hMM l) ⟨hlk.of (sd_KK (d := d0) hK).2.2.2 hts' hrc hrs hR, hyn, hts' _ hin1⟩ ⟨blindM, preM hM (sd_KK hK)⟩ rfl hn hL.1 hstk (lv_room hW) hd hcs) kk
theorem vv_d2l (q : Nat) {idx : Nat} {b : UInt64} (hd : decode cc pc = .ok (.invokestatic idx, 3)) (hq : pc + 3 = q) (hl : Cond.methodLink own idx ⟨"java/lang/Double", "doubleToRawLongBits", "(D)J"⟩ ∈ lw_gd) (hna : Cond.native ⟨"java/lang/Double", "doubleToRawLongBits", "(D)J"⟩ ∈ lw_gd) (hst : Cond.static ⟨"java/lang/Double", "doubleToRawLongBits", "(D)J"⟩ ∈ lw_gd) (hi : Cond.initialized "java/lang/Double" ∈ lw_gd) (hf : 1 ≤ rm.frames) (hlo : (st.map fun v => v.category).sum + 15 ≤ rm.locals) (kk : VV w own cc nL ret rm ini Q K q L (.long b.toInt64 :: st) cl sl m) : VV w own cc nL ret rm ini Q K pc L (.double b :: st) cl sl m := by
  intro p l ev s mth args below meth cd H locs ls d0 hx hb hml hr hk hown hts hin hK hd0 hbs hM hS hL
  subst hq
  have hts' := dr_words hts d0
  have hown' : (s.setDrawn d0).vm.findClass own = some mth.cls := hown
  exact vn_d2l (s := s.setDrawn d0) hx hb (hml.trans hL.1.symm) hown' (hts' _ hl) (hts' _ hna) (hts' _ hst) (hts' _ hi) hf hlo hd (kk p l ev s mth args below meth cd H locs ls d0 hx hb hml hr hk hown hts hin hK hd0 hbs hM hS hL)
theorem vv_lb2d (q : Nat) {idx : Nat} {b : Int64} (hd : decode cc pc = .ok (.invokestatic idx, 3)) (hq : pc + 3 = q) (hl : Cond.methodLink own idx ⟨"java/lang/Double", "longBitsToDouble", "(J)D"⟩ ∈ lw_gd) (hna : Cond.native ⟨"java/lang/Double", "longBitsToDouble", "(J)D"⟩ ∈ lw_gd) (hst : Cond.static ⟨"java/lang/Double", "longBitsToDouble", "(J)D"⟩ ∈ lw_gd) (hi : Cond.initialized "java/lang/Double" ∈ lw_gd) (hv : vn_snl2d b = false) (hf : 1 ≤ rm.frames) (hlo : (st.map fun v => v.category).sum + 15 ≤ rm.locals) (kk : VV w own cc nL ret rm ini Q K q L (.double b.toUInt64 :: st) cl sl m) : VV w own cc nL ret rm ini Q K pc L (.long b :: st) cl sl m := by
  intro p l ev s mth args below meth cd H locs ls d0 hx hb hml hr hk hown hts hin hK hd0 hbs hM hS hL
  subst hq
  have hts' := dr_words hts d0
  have hown' : (s.setDrawn d0).vm.findClass own = some mth.cls := hown
  exact vn_l2d (s := s.setDrawn d0) hx hb (hml.trans hL.1.symm) hown' (hts' _ hl) (hts' _ hna) (hts' _ hst) (hts' _ hi) hv hf hlo hd (kk p l ev s mth args below meth cd H locs ls d0 hx hb hml hr hk hown hts hin hK hd0 hbs hM hS hL)
end VC
