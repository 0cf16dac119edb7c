theorem narrow_bz {v : Int32} (h : v = 0 ∨ v = 1) : narrow .boolean (.int v) = .int v := by
  rcases h with rfl | rfl <;> decide
/-! ===== memory facts ===== -/
theorem fv_sI {m : Mem} {a k : Nat} {v : Int32} {b : Nat} (h : b ≠ a) (c j : Nat) : fv (sI m a k v) c b j = fv m c b j := by
  have e : gI (sI m a k v) b j = gI m b j := by simp [gI, sI, h]
  unfold fv vlF
  rw [e]; rfl
theorem av_sI {m : Mem} {a k : Nat} {v : Int32} {b : Nat} (h : b ≠ a) (t : Nat) : av (sI m a k v) t b = av m t b := by
  have e : gI (sI m a k v) b = gI m b := by funext j; simp [gI, sI, h]
  unfold av
  rw [e]; rfl
theorem fv_sJ {m : Mem} {a k : Nat} {v : Int64} {b : Nat} (h : b ≠ a) (c j : Nat) : fv (sJ m a k v) c b j = fv m c b j := by
  have e : gJ (sJ m a k v) b j = gJ m b j := by simp [gJ, sJ, h]
  unfold fv vlF
  rw [e]; rfl
theorem av_sJ {m : Mem} {a k : Nat} {v : Int64} {b : Nat} (h : b ≠ a) (t : Nat) : av (sJ m a k v) t b = av m t b := by
  have e : gJ (sJ m a k v) b = gJ m b := by funext j; simp [gJ, sJ, h]
  unfold av
  rw [e]; rfl
theorem fv_sR {m : Mem} {a k : Nat} {v : Option Nat} {b : Nat} (h : b ≠ a) (c j : Nat) : fv (sR m a k v) c b j = fv m c b j := by
  have e : gR (sR m a k v) b j = gR m b j := by simp [gR, sR, h]
  unfold fv vlF
  rw [e]; rfl
theorem av_sR {m : Mem} {a k : Nat} {v : Option Nat} {b : Nat} (h : b ≠ a) (t : Nat) : av (sR m a k v) t b = av m t b := by
  have e : gR (sR m a k v) b = gR m b := by funext j; simp [gR, sR, h]
  unfold av
  rw [e]; rfl
theorem fv_cpI {m : Mem} {a d sp dp n : Nat} {b : Nat} (h : b ≠ d) (c j : Nat) : fv (cpI m a d sp dp n) c b j = fv m c b j := by
  have e : gI (cpI m a d sp dp n) b j = gI m b j := by simp [gI, cpI, h]
  unfold fv vlF
  rw [e]; rfl
theorem av_cpI {m : Mem} {a d sp dp n : Nat} {b : Nat} (h : b ≠ d) (t : Nat) : av (cpI m a d sp dp n) t b = av m t b := by
  have e : gI (cpI m a d sp dp n) b = gI m b := by funext j; simp [gI, cpI, h]
  unfold av
  rw [e]; rfl
theorem fv_bump {m : Mem} {b : Nat} (h : b ≠ szm m) (c j : Nat) : fv (bump m) c b j = fv m c b j := by
  have h' : ¬ b = m.1 := h
  have e1 : gI (bump m) b j = gI m b j := by simp [gI, bump, h']
  have e2 : gJ (bump m) b j = gJ m b j := by simp [gJ, bump, h']
  have e3 : gR (bump m) b j = gR m b j := by simp [gR, bump, h']
  unfold fv vlF
  rw [e1, e2, e3]
theorem av_bump {m : Mem} {b : Nat} (h : b ≠ szm m) (t : Nat) : av (bump m) t b = av m t b := by
  have h' : ¬ b = m.1 := h
  have e1 : gI (bump m) b = gI m b := by funext j; simp [gI, bump, h']
  have e2 : gJ (bump m) b = gJ m b := by funext j; simp [gJ, bump, h']
  have e3 : gR (bump m) b = gR m b := by funext j; simp [gR, bump, h']
  unfold av
  rw [e1, e2, e3]
theorem okc.kept {w : Wo} {m m' : Mem} {a : Nat} {k : Kd} {H H' : Heap} (h : okc w m a k H) (ho : H'[a]? = H[a]?) (h1 : ∀ c j, fv m' c a j = fv m c a j) (h2 : ∀ t, av m' t a = av m t a) : okc w m' a k H' := by
  cases k with
  | inl c =>
    obtain ⟨r, hr, hob⟩ := h
    exact ⟨r, hr, (hob.kept ho).to (fun j _ => (h1 c j).symm)⟩
  | inr x =>
    show H'[a]? = some (vp_cell _ (x.2, av m' x.1 a))
    rw [h2, ho]; exact h
theorem okc.lt {w : Wo} {m : Mem} {a : Nat} {k : Kd} {H : Heap} (h : okc w m a k H) : a < H.size := by
  cases k with
  | inl c =>
    obtain ⟨r, hr, cell, h2, -⟩ := h
    exact (Array.getElem?_eq_some_iff.mp h2).1
  | inr x => exact (Array.getElem?_eq_some_iff.mp h).1
theorem HM.put {w : Wo} {K : Kn} {m m' : Mem} {H H' : Heap} {a : Nat} {k : Kd} (h : HM w K m H) (hka : K a = some k) (hz : H'.size = H.size) (ho : ∀ q : Nat, q ≠ a → H'[q]? = H[q]?) (hs : szm m' = szm m)
    (h1 : ∀ b, b ≠ a → ∀ c j, fv m' c b j = fv m c b j) (h2 : ∀ b, b ≠ a → ∀ t, av m' t b = av m t b) (hk : okc w m' a k H') : HM w K m' H' := by
  have hba := (h.2.2.2 a k hka).1
  refine ⟨by rw [hz, hs]; exact h.1, by rw [hz]; exact h.2.1, fun q hq => ?_, fun b kb hb => ?_⟩
  · rw [ho q (by omega)]; exact h.2.2.1 q hq
  · by_cases e : b = a
    · subst e
      rw [hka] at hb; cases hb
      exact ⟨hba, hk⟩
    · exact ⟨(h.2.2.2 b kb hb).1, (h.2.2.2 b kb hb).2.kept (ho b e) (h1 b e) (h2 b e)⟩
theorem HM.sub {w : Wo} {K K' : Kn} {m : Mem} {H : Heap} (h : HM w K m H) (hs : ∀ a k, K' a = some k → K a = some k) : HM w K' m H := ⟨h.1, h.2.1, h.2.2.1, fun a k hk => h.2.2.2 a k (hs a k hk)⟩
theorem HM.fresh {w : Wo} {K : Kn} {m : Mem} {H : Heap} (h : HM w K m H) : K (szm m) = none := by
  cases hk : K (szm m) with
  | none => rfl
  | some k => have h1 := (h.2.2.2 _ k hk).2.lt; have h2 := h.1; omega
theorem HM.new {w : Wo} {K : Kn} {m : Mem} {H H' : Heap} {k : Kd} (h : HM w K m H) (hz : H'.size = H.size + 1) (ho : ∀ q : Nat, q < H.size → H'[q]? = H[q]?) (hk : okc w (bump m) (szm m) k H') : HM w (upK K (szm m) k) (bump m) H' := by
  have hfr := h.fresh
  refine ⟨by rw [hz, h.1]; rfl, by rw [hz]; have := h.2.1; omega, fun q hq => ?_, fun b kb hb => ?_⟩
  · rw [ho q (by have := h.2.1; omega)]; exact h.2.2.1 q hq
  · by_cases e : b = szm m
    · subst e; rw [upK_new hfr] at hb; cases hb
      exact ⟨by have := h.2.1; have := h.1; omega, hk⟩
    · have hb : K b = some kb := by
        unfold upK at hb
        cases hkb : K b with
        | some x => rw [hkb] at hb; exact hb
        | none => rw [hkb] at hb; simp [e] at hb
      obtain ⟨g1, g2⟩ := h.2.2.2 b kb hb
      exact ⟨g1, g2.kept (ho b g2.lt) (fv_bump e) (av_bump e)⟩
theorem sd_KK {w : Wo} {s : State} {d : Drawn} (h : KK w s) : KK w (s.setDrawn d) := h.same rfl

section VH
variable {w : Wo} {own : String} {cc : ByteArray} {nL : Nat} {ret : Option FieldType} {rm : Room} {ini : Bool} {Q : Qk} {K : Kn} {pc : Nat} {L : List (Option Value)} {st : List Value} {cl sl : Nat} {m : Mem}
theorem vv_get (q : Nat) {idx c k : Nat} {C : String} {T : u_T} {N a : Nat} {v : Value} (hd : decode cc pc = .ok (.getfield idx, 3)) (hq : pc + 3 = q) (hc : vwCl[c]? = some (C, T, N)) (hin0 : ∀ x ∈ u_ws C T N, x ∈ lw_gd) (hk0 : k < N) (hl : Cond.fieldLink own idx (T k).1 (T k).2.1 (T k).2.2.1 ∈ lw_gd) (hv : fv m c a k = v) (ha : K a = some (.inl c)) (kk : VV w own cc nL ret rm ini Q K q L (v :: st) cl sl m) : VV w own cc nL ret rm ini Q K pc L (.ref a :: st) cl sl m := by
  intro p l ev s mth args below meth cd H locs ls d0 hx hb hml hr hk hown hts hin hK hd0 hbs hM hS hL
  subst hq
  obtain ⟨-, r, h1, cell, q1, q2, q3, q4⟩ := hM.2.2.2 a _ ha
  have hr' : r = (C, T, N) := Option.some.inj (h1.symm.trans hc)
  subst hr'
  obtain ⟨hS0, hfc, kC, hkC, hkind⟩ := (sd_KK (d := d0) hK).1.1 c _ hc
  obtain ⟨cf, kf, fi, f, hi, hsl⟩ := hS0 k hk0
  have hts' := dr_words hts d0
  have hown' : (s.setDrawn d0).vm.findClass own = some mth.cls := hown
  refine W.getf (s := s.setDrawn d0) hx hb hown' (hts' _ hl) hi (u_facts hfc hkC (u_lays hts' hin0 hk0) hi).1 q1 (by rw [q3]; exact fun h => by cases h) (v := v) ?_ rfl rfl hd (kk p l ev s mth args below meth cd H locs ls d0 hx hb hml hr hk hown hts hin hK hd0 hbs hM hS hL)
  rw [hsl, q4 k hk0, hv]
theorem vv_putG (q : Nat) {idx ci k : Nat} {C : String} {T : u_T} {N a : Nat} {v : Value} {m' : Mem} {ty : FieldType} (ty0 : Nat → FieldType) (hd : decode cc pc = .ok (.putfield idx, 3)) (hq : pc + 3 = q) (hc : vwCl[ci]? = some (C, T, N)) (hin0 : ∀ x ∈ u_ws C T N, x ∈ lw_gd) (hty : ∀ k, k < N → parseFieldDescriptor (T k).2.2.1 = some (ty0 k)) (hnm : ∀ a, a < N → ∀ b, b < N → a ≠ b → (T a).2.1 ≠ (T b).2.1) (hk0 : k < N) (hfin : (T k).2.2.2 = false) (hl : Cond.fieldLink own idx (T k).1 (T k).2.1 (T k).2.2.1 ∈ lw_gd) (htd : parseFieldDescriptor (T k).2.2.1 = some ty) (hn : narrow ty v = v) (hfit : fits ty v = true)
    (hsz : szm m' = szm m) (hf1 : ∀ j, fv m' ci a j = updV (fv m ci a) k v j) (hf2 : ∀ b, b ≠ a → ∀ c j, fv m' c b j = fv m c b j) (hf3 : ∀ b, b ≠ a → ∀ t, av m' t b = av m t b) (ha : K a = some (.inl ci)) (kk : VV w own cc nL ret rm ini Q K q L st cl sl m') : VV w own cc nL ret rm ini Q K pc L (v :: .ref a :: st) cl sl m := by
  intro p l ev s mth args below meth cd H locs ls d0 hx hb hml hr hk hown hts hin hK hd0 hbs hM hS hL
  subst hq
  have hts' := dr_words hts d0
  have hK' := sd_KK (d := d0) hK
  have hap := va_apart (own := own) hts' hin0 ty0 hty hnm hK'.1 hc
  obtain ⟨hba, r, h1, cell, q1, q2, q3, q4⟩ := hM.2.2.2 a _ ha
  have hr' : r = (C, T, N) := Option.some.inj (h1.symm.trans hc)
  subst hr'
  obtain ⟨hS0, hfc, kC, hkC, hkind⟩ := hK'.1.1 ci _ hc
  obtain ⟨cf, kf, fi, f, hi, hsl⟩ := hS0 k hk0
  have hlay := hts' _ (hin0 _ (u_in_lay hk0))
  unfold u_lay at hlay
  rw [if_neg (by rw [hfin]; decide)] at hlay
  have hst := (u_facts hfc hkC (u_lays hts' hin0 hk0) hi).1
  have h6 := u_store hfc hkC hkind hlay hi htd hn hfit
  have hown' : (s.setDrawn d0).vm.findClass own = some mth.cls := hown
  refine W.putK (s := s.setDrawn d0) hx hb (f := f) ⟨hown', hts' _ hl, ⟨_, _, _, hi⟩, hst⟩ (by rw [q2]; exact h6) q1 q3 (by rw [hsl]; exact k2_hasslot (q4 k hk0)) rfl rfl hd fun H1 e1 e2 e3 => ?_
  rw [hsl] at e1 ⊢
  have hob : t_OB a (w.1.1 ci) N (w.1.2 ci) H1 (updV (fv m ci a) k v) := ⟨_, e1, q2, q3, t_set q4 hap hk0 v⟩
  exact kk p l ev s mth args below meth cd H1 _ ls d0 hx hb hml hr hk hown hts hin hK hd0 hbs (hM.put ha e2 e3 hsz hf2 hf3 ⟨(C, T, N), hc, hob.to (fun j _ => (hf1 j).symm)⟩) (hS.put e2 e3 hba) hL
theorem vv_putGF (q : Nat) {idx ci k : Nat} {C : String} {T : u_T} {N a : Nat} {v : Value} {m' : Mem} {ty : FieldType} (ty0 : Nat → FieldType) (hd : decode cc pc = .ok (.putfield idx, 3)) (hq : pc + 3 = q) (hc : vwCl[ci]? = some (C, T, N)) (hin0 : ∀ x ∈ u_ws C T N, x ∈ lw_gd) (hty : ∀ k, k < N → parseFieldDescriptor (T k).2.2.1 = some (ty0 k)) (hnm : ∀ a, a < N → ∀ b, b < N → a ≠ b → (T a).2.1 ≠ (T b).2.1) (hk0 : k < N) (hfin : (T k).2.2.2 = true) (hini : ini = true) (hdecl : (T k).1 = own) (hl : Cond.fieldLink own idx (T k).1 (T k).2.1 (T k).2.2.1 ∈ lw_gd) (htd : parseFieldDescriptor (T k).2.2.1 = some ty) (hn : narrow ty v = v) (hfit : fits ty v = true)
    (hsz : szm m' = szm m) (hf1 : ∀ j, fv m' ci a j = updV (fv m ci a) k v j) (hf2 : ∀ b, b ≠ a → ∀ c j, fv m' c b j = fv m c b j) (hf3 : ∀ b, b ≠ a → ∀ t, av m' t b = av m t b) (ha : K a = some (.inl ci)) (kk : VV w own cc nL ret rm ini Q K q L st cl sl m') : VV w own cc nL ret rm ini Q K pc L (v :: .ref a :: st) cl sl m := by
  intro p l ev s mth args below meth cd H locs ls d0 hx hb hml hr hk hown hts hin hK hd0 hbs hM hS hL
  subst hq
  have hts' := dr_words hts d0
  have hK' := sd_KK (d := d0) hK
  have hap := va_apart (own := own) hts' hin0 ty0 hty hnm hK'.1 hc
  obtain ⟨hba, r, h1, cell, q1, q2, q3, q4⟩ := hM.2.2.2 a _ ha
  have hr' : r = (C, T, N) := Option.some.inj (h1.symm.trans hc)
  subst hr'
  obtain ⟨hS0, hfc, kC, hkC, hkind⟩ := hK'.1.1 ci _ hc
  obtain ⟨cf, kf, fi, f, hi, hsl⟩ := hS0 k hk0
  have hlay := hts' _ (hin0 _ (u_in_lay hk0))
  unfold u_lay at hlay
  rw [if_pos hfin] at hlay
  have hst := (u_facts hfc hkC (u_lays hts' hin0 hk0) hi).1
  have hcf : mth.cls = cf := by
    obtain ⟨_, _, c', _, _, _, -, -, hf', -, -, -, hown2, -⟩ := Cond.laysFinal_spec hlay
    have e1 : c' = cf := by have := hi.symm.trans hf'; simp at this; exact this.1.symm
    rw [hdecl] at hown2
    rw [← e1]; exact Option.some.inj (hown.symm.trans hown2)
  have h6 := u_fits hfc hkC hkind (Or.inr hlay) hi htd hn hfit
  have hown' : (s.setDrawn d0).vm.findClass own = some mth.cls := hown
  refine W.putFinK (s := s.setDrawn d0) hx hb hown' (hts' _ hl) hi hst hcf (hin hini) (by rw [q2]; exact h6) q1 q3 (by rw [hsl]; exact k2_hasslot (q4 k hk0)) rfl rfl hd fun H1 e1 e2 e3 => ?_
  rw [hsl] at e1 ⊢
  have hob : t_OB a (w.1.1 ci) N (w.1.2 ci) H1 (updV (fv m ci a) k v) := ⟨_, e1, q2, q3, t_set q4 hap hk0 v⟩
  exact kk p l ev s mth args below meth cd H1 _ ls d0 hx hb hml hr hk hown hts hin hK hd0 hbs (hM.put ha e2 e3 hsz hf2 hf3 ⟨(C, T, N), hc, hob.to (fun j _ => (hf1 j).symm)⟩) (hS.put e2 e3 hba) hL
theorem vv_iald (q : Nat) {a : Nat} {i : Int32} {v : Int32} (hd : decode cc pc = .ok (.iaload, 1)) (hq : pc + 1 = q) (ha : K a = some (.inr (0, lenK K a))) (hv : alI K m a i = some v) (kk : VV w own cc nL ret rm ini Q K q L (.int v :: st) cl sl m) : VV w own cc nL ret rm ini Q K pc L (.int i :: .ref a :: st) cl sl m := by
  intro p l ev s mth args below meth cd H locs ls d0 hx hb hml hr hk hown hts hin hK hd0 hbs hM hS hL
  subst hq
  obtain ⟨hi, rfl⟩ := op_if hv
  have hc : H[a]? = some (vp_cell _ (_, av m 0 a)) := (hM.2.2.2 a _ ha).2
  have hlt : i.toNatClampNeg < lenK K a := Nat.not_le.mp fun z => inb_in hi (Or.inr z)
  exact W.iald (v := .int (gI m a i.toNatClampNeg)) hx hb hc (((sd_KK (d := d0) hK).1.2 0 _ rfl).1 (lenK K a) (fun j => .int (gI m a j))) (fun z => by cases z) (by show ¬ (i < 0 ∨ (arrV _ _ _).slots.size ≤ _); rw [arrV_size]; exact inb_in hi) (by show (arrV _ _ _).slots[_]? = _; rw [arrV_read _ _ hlt]) rfl rfl hd (kk p l ev s mth args below meth cd H locs ls d0 hx hb hml hr hk hown hts hin hK hd0 hbs hM hS hL)
theorem vv_lald (q : Nat) {a : Nat} {i : Int32} {v : Int64} (hd : decode cc pc = .ok (.laload, 1)) (hq : pc + 1 = q) (ha : K a = some (.inr (1, lenK K a))) (hv : alJ K m a i = some v) (kk : VV w own cc nL ret rm ini Q K q L (.long v :: st) cl sl m) : VV w own cc nL ret rm ini Q K pc L (.int i :: .ref a :: st) cl sl m := by
  intro p l ev s mth args below meth cd H locs ls d0 hx hb hml hr hk hown hts hin hK hd0 hbs hM hS hL
  subst hq
  obtain ⟨hi, rfl⟩ := op_if hv
  have hc : H[a]? = some (vp_cell _ (_, av m 1 a)) := (hM.2.2.2 a _ ha).2
  have hlt : i.toNatClampNeg < lenK K a := Nat.not_le.mp fun z => inb_in hi (Or.inr z)
  exact W.lald (v := .long (gJ m a i.toNatClampNeg)) hx hb hc (((sd_KK (d := d0) hK).1.2 1 _ rfl).1 (lenK K a) (fun j => .long (gJ m a j))) (fun z => by cases z) (by show ¬ (i < 0 ∨ (arrV _ _ _).slots.size ≤ _); rw [arrV_size]; exact inb_in hi) (by show (arrV _ _ _).slots[_]? = _; rw [arrV_read _ _ hlt]) rfl rfl hd (kk p l ev s mth args below meth cd H locs ls d0 hx hb hml hr hk hown hts hin hK hd0 hbs hM hS hL)
theorem vv_zald (q : Nat) {a : Nat} {i : Int32} {v : Int32} (hd : decode cc pc = .ok (.baload, 1)) (hq : pc + 1 = q) (ha : K a = some (.inr (2, lenK K a))) (hv : alI K m a i = some v) (kk : VV w own cc nL ret rm ini Q K q L (.int v :: st) cl sl m) : VV w own cc nL ret rm ini Q K pc L (.int i :: .ref a :: st) cl sl m := by
  intro p l ev s mth args below meth cd H locs ls d0 hx hb hml hr hk hown hts hin hK hd0 hbs hM hS hL
  subst hq
  obtain ⟨hi, rfl⟩ := op_if hv
  have hc : H[a]? = some (vp_cell _ (_, av m 2 a)) := (hM.2.2.2 a _ ha).2
  have hlt : i.toNatClampNeg < lenK K a := Nat.not_le.mp fun z => inb_in hi (Or.inr z)
  exact W.zald (v := .int (gI m a i.toNatClampNeg)) hx hb hc (((sd_KK (d := d0) hK).1.2 2 _ rfl).1 (lenK K a) (fun j => .int (gI m a j))) (fun z => by cases z) (by show ¬ (i < 0 ∨ (arrV _ _ _).slots.size ≤ _); rw [arrV_size]; exact inb_in hi) (by show (arrV _ _ _).slots[_]? = _; rw [arrV_read _ _ hlt]) rfl rfl hd (kk p l ev s mth args below meth cd H locs ls d0 hx hb hml hr hk hown hts hin hK hd0 hbs hM hS hL)
theorem vv_aald3 (q : Nat) {a b c1 : Nat} {i : Int32} (hd : decode cc pc = .ok (.aaload, 1)) (hq : pc + 1 = q) (ha : K a = some (.inr (3, lenK K a))) (hv : alO K m a i c1 = some b) (kk : VV w own cc nL ret rm ini Q K q L (.ref b :: st) cl sl m) : VV w own cc nL ret rm ini Q K pc L (.int i :: .ref a :: st) cl sl m := by
  intro p l ev s mth args below meth cd H locs ls d0 hx hb hml hr hk hown hts hin hK hd0 hbs hM hS hL
  subst hq
  unfold alO at hv
  by_cases hi : inb i (lenK K a) = true
  · rw [if_pos hi] at hv
    obtain ⟨hg, hkb⟩ := ldO_spec hv
    have hc : H[a]? = some (vp_cell _ (_, av m 3 a)) := (hM.2.2.2 a _ ha).2
    have hlt : i.toNatClampNeg < lenK K a := Nat.not_le.mp fun z => inb_in hi (Or.inr z)
    exact W.aald (v := .ref b) hx hb hc (((sd_KK (d := d0) hK).1.2 3 _ rfl).1 (lenK K a) (fun j => va_rf (gR m a j))) rfl (fun z => by cases z) (by show ¬ (i < 0 ∨ (arrV _ _ _).slots.size ≤ _); rw [arrV_size]; exact inb_in hi) (by show (arrV _ _ _).slots[_]? = _; rw [arrV_read _ _ hlt, hg]; rfl) rfl rfl hd (kk p l ev s mth args below meth cd H locs ls d0 hx hb hml hr hk hown hts hin hK hd0 hbs hM hS hL)
  · rw [if_neg hi] at hv; cases hv
theorem vv_aald4 (q : Nat) {a b c1 : Nat} {i : Int32} (hd : decode cc pc = .ok (.aaload, 1)) (hq : pc + 1 = q) (ha : K a = some (.inr (4, lenK K a))) (hv : alO K m a i c1 = some b) (kk : VV w own cc nL ret rm ini Q K q L (.ref b :: st) cl sl m) : VV w own cc nL ret rm ini Q K pc L (.int i :: .ref a :: st) cl sl m := by
  intro p l ev s mth args below meth cd H locs ls d0 hx hb hml hr hk hown hts hin hK hd0 hbs hM hS hL
  subst hq
  unfold alO at hv
  by_cases hi : inb i (lenK K a) = true
  · rw [if_pos hi] at hv
    obtain ⟨hg, hkb⟩ := ldO_spec hv
    have hc : H[a]? = some (vp_cell _ (_, av m 4 a)) := (hM.2.2.2 a _ ha).2
    have hlt : i.toNatClampNeg < lenK K a := Nat.not_le.mp fun z => inb_in hi (Or.inr z)
    exact W.aald (v := .ref b) hx hb hc (((sd_KK (d := d0) hK).1.2 4 _ rfl).1 (lenK K a) (fun j => va_rf (gR m a j))) rfl (fun z => by cases z) (by show ¬ (i < 0 ∨ (arrV _ _ _).slots.size ≤ _); rw [arrV_size]; exact inb_in hi) (by show (arrV _ _ _).slots[_]? = _; rw [arrV_read _ _ hlt, hg]; rfl) rfl rfl hd (kk p l ev s mth args below meth cd H locs ls d0 hx hb hml hr hk hown hts hin hK hd0 hbs hM hS hL)
  · rw [if_neg hi] at hv; cases hv
theorem vv_iast (q : Nat) {a : Nat} {i : Int32} {v : Int32} {m' : Mem} (hd : decode cc pc = .ok (.iastore, 1)) (hq : pc + 1 = q) (ha : K a = some (.inr (0, lenK K a))) (hv : asI K m a i v = some m') (kk : VV w own cc nL ret rm ini Q K q L st cl sl m') : VV w own cc nL ret rm ini Q K pc L (.int v :: .int i :: .ref a :: st) cl sl m := by
  intro p l ev s mth args below meth cd H locs ls d0 hx hb hml hr hk hown hts hin hK hd0 hbs hM hS hL
  subst hq
  obtain ⟨hi, rfl⟩ := op_if hv
  have hc : H[a]? = some (vp_cell _ (_, av m 0 a)) := (hM.2.2.2 a _ ha).2
  refine W.iast hx hb hc (((sd_KK (d := d0) hK).1.2 0 _ rfl).1 (lenK K a) (fun j => .int (gI m a j))) (fun z => by cases z) (by show ¬ (i < 0 ∨ (arrV _ _ _).slots.size ≤ _); rw [arrV_size]; exact inb_in hi) rfl rfl hd fun H1 e z oq => ?_
  refine kk p l ev s mth args below meth cd H1 _ ls d0 hx hb hml hr hk hown hts hin hK hd0 hbs (hM.put ha z oq rfl (fun b hb => fv_sI hb) (fun b hb => av_sI hb) ?_) (hS.put z oq (hM.2.2.2 a _ ha).1) hL
  show H1[a]? = some (vp_cell _ (_, av (sI m a i.toNatClampNeg v) 0 a))
  rw [e]
  show some ((arrV _ _ _).setSlot _ _) = some (arrV _ _ (fun j => .int (gI (sI m a i.toNatClampNeg v) a j)))
  rw [arrV_store]
  congr 2
  funext j
  by_cases hj : j = i.toNatClampNeg
  · subst hj
    simp [updV, gI, sI]
  · simp [updV, gI, sI, hj]
theorem vv_last (q : Nat) {a : Nat} {i : Int32} {v : Int64} {m' : Mem} (hd : decode cc pc = .ok (.lastore, 1)) (hq : pc + 1 = q) (ha : K a = some (.inr (1, lenK K a))) (hv : asJ K m a i v = some m') (kk : VV w own cc nL ret rm ini Q K q L st cl sl m') : VV w own cc nL ret rm ini Q K pc L (.long v :: .int i :: .ref a :: st) cl sl m := by
  intro p l ev s mth args below meth cd H locs ls d0 hx hb hml hr hk hown hts hin hK hd0 hbs hM hS hL
  subst hq
  obtain ⟨hi, rfl⟩ := op_if hv
  have hc : H[a]? = some (vp_cell _ (_, av m 1 a)) := (hM.2.2.2 a _ ha).2
  refine W.last hx hb hc (((sd_KK (d := d0) hK).1.2 1 _ rfl).1 (lenK K a) (fun j => .long (gJ m a j))) (fun z => by cases z) (by show ¬ (i < 0 ∨ (arrV _ _ _).slots.size ≤ _); rw [arrV_size]; exact inb_in hi) rfl rfl hd fun H1 e z oq => ?_
  refine kk p l ev s mth args below meth cd H1 _ ls d0 hx hb hml hr hk hown hts hin hK hd0 hbs (hM.put ha z oq rfl (fun b hb => fv_sJ hb) (fun b hb => av_sJ hb) ?_) (hS.put z oq (hM.2.2.2 a _ ha).1) hL
  show H1[a]? = some (vp_cell _ (_, av (sJ m a i.toNatClampNeg v) 1 a))
  rw [e]
  show some ((arrV _ _ _).setSlot _ _) = some (arrV _ _ (fun j => .long (gJ (sJ m a i.toNatClampNeg v) a j)))
  rw [arrV_store]
  congr 2
  funext j
  by_cases hj : j = i.toNatClampNeg
  · subst hj
    simp [updV, gJ, sJ]
  · simp [updV, gJ, sJ, hj]
theorem vv_zast (q : Nat) {a : Nat} {i : Int32} {v : Int32} {m' : Mem} (hd : decode cc pc = .ok (.bastore, 1)) (hq : pc + 1 = q) (ha : K a = some (.inr (2, lenK K a))) (hv : asZ K m a i v = some m') (kk : VV w own cc nL ret rm ini Q K q L st cl sl m') : VV w own cc nL ret rm ini Q K pc L (.int v :: .int i :: .ref a :: st) cl sl m := by
  intro p l ev s mth args below meth cd H locs ls d0 hx hb hml hr hk hown hts hin hK hd0 hbs hM hS hL
  subst hq
  obtain ⟨hi, rfl⟩ := op_if hv
  obtain ⟨hi, hbz⟩ := hi
  have hc : H[a]? = some (vp_cell _ (_, av m 2 a)) := (hM.2.2.2 a _ ha).2
  refine W.zast hx hb hc (((sd_KK (d := d0) hK).1.2 2 _ rfl).1 (lenK K a) (fun j => .int (gI m a j))) (fun z => by cases z) (by show ¬ (i < 0 ∨ (arrV _ _ _).slots.size ≤ _); rw [arrV_size]; exact inb_in hi) rfl rfl hd fun H1 e z oq => ?_
  refine kk p l ev s mth args below meth cd H1 _ ls d0 hx hb hml hr hk hown hts hin hK hd0 hbs (hM.put ha z oq rfl (fun b hb => fv_sI hb) (fun b hb => av_sI hb) ?_) (hS.put z oq (hM.2.2.2 a _ ha).1) hL
  show H1[a]? = some (vp_cell _ (_, av (sI m a i.toNatClampNeg v) 2 a))
  rw [e]
  show some ((arrV _ _ _).setSlot _ _) = some (arrV _ _ (fun j => .int (gI (sI m a i.toNatClampNeg v) a j)))
  rw [arrV_store]
  congr 2
  funext j
  by_cases hj : j = i.toNatClampNeg
  · subst hj
    simp [updV, gI, sI, narrow_bz hbz]
  · simp [updV, gI, sI, hj]
theorem vv_aast3 (q : Nat) {a b : Nat} {i : Int32} {m' : Mem} (hd : decode cc pc = .ok (.aastore, 1)) (hq : pc + 1 = q) (ha : K a = some (.inr (3, lenK K a))) (hb1 : K b = some (.inl 6)) (hv : asO K m a i b = some m') (kk : VV w own cc nL ret rm ini Q K q L st cl sl m') : VV w own cc nL ret rm ini Q K pc L (.ref b :: .int i :: .ref a :: st) cl sl m := by
  intro p l ev s mth args below meth cd H locs ls d0 hx hb hml hr hk hown hts hin hK hd0 hbs hM hS hL
  subst hq
  obtain ⟨hi, rfl⟩ := op_if hv
  have hlt : i.toNatClampNeg < lenK K a := Nat.not_le.mp fun z => inb_in hi (Or.inr z)
  have h0 : ¬ i < 0 := fun z => inb_in hi (Or.inl z)
  have hc : H[a]? = some (vp_cell _ (_, av m 3 a)) := (hM.2.2.2 a _ ha).2
  obtain ⟨-, r', hr', cellV, g1, g2, g3, -⟩ := hM.2.2.2 b _ hb1
  have hKs := (sd_KK (d := d0) hK).1
  have hcls := (hKs.1 6 _ rfl).2
  obtain ⟨kA, comp, k1, k2, k3, -⟩ := (hKs.2 3 _ rfl).2
  have hcomp : comp = w.1.1 6 := Option.some.inj (k3.symm.trans hcls.1)
  subst hcomp
  obtain ⟨kC, hkC, -⟩ := hcls.2
  refine W.aast hx hb hc (fun z h => by cases h) (fun h => by cases h) k1 k2 rfl hkC ⟨h0, by show _ < (arrV _ _ _).slots.size; rw [arrV_size]; exact hlt⟩ g1 (fun z h => by rw [g3] at h; cases h) (by rw [g2]; exact hkC) (by rw [g2]; exact va_assign hcls) rfl rfl hd fun H1 e z oq => ?_
  refine kk p l ev s mth args below meth cd H1 _ ls d0 hx hb hml hr hk hown hts hin hK hd0 hbs (hM.put ha z oq rfl (fun b hb => fv_sR hb) (fun b hb => av_sR hb) ?_) (hS.put z oq (hM.2.2.2 a _ ha).1) hL
  show H1[a]? = some (vp_cell _ (_, av (sR m a i.toNatClampNeg (some b)) 3 a))
  rw [e]
  show some ((arrV _ _ _).setSlot _ _) = some (arrV _ _ (fun j => va_rf (gR (sR m a i.toNatClampNeg (some b)) a j)))
  rw [arrV_store]
  congr 2
  funext j
  by_cases hj : j = i.toNatClampNeg
  · subst hj
    simp [updV, gR, sR, va_rf]
  · simp [updV, gR, sR, hj]
theorem vv_aast4 (q : Nat) {a b : Nat} {i : Int32} {m' : Mem} (hd : decode cc pc = .ok (.aastore, 1)) (hq : pc + 1 = q) (ha : K a = some (.inr (4, lenK K a))) (hb1 : K b = some (.inl 0)) (hv : asO K m a i b = some m') (kk : VV w own cc nL ret rm ini Q K q L st cl sl m') : VV w own cc nL ret rm ini Q K pc L (.ref b :: .int i :: .ref a :: st) cl sl m := by
  intro p l ev s mth args below meth cd H locs ls d0 hx hb hml hr hk hown hts hin hK hd0 hbs hM hS hL
  subst hq
  obtain ⟨hi, rfl⟩ := op_if hv
  have hlt : i.toNatClampNeg < lenK K a := Nat.not_le.mp fun z => inb_in hi (Or.inr z)
  have h0 : ¬ i < 0 := fun z => inb_in hi (Or.inl z)
  have hc : H[a]? = some (vp_cell _ (_, av m 4 a)) := (hM.2.2.2 a _ ha).2
  obtain ⟨-, r', hr', cellV, g1, g2, g3, -⟩ := hM.2.2.2 b _ hb1
  have hKs := (sd_KK (d := d0) hK).1
  have hcls := (hKs.1 0 _ rfl).2
  obtain ⟨kA, comp, k1, k2, k3, -⟩ := (hKs.2 4 _ rfl).2
  have hcomp : comp = w.1.1 0 := Option.some.inj (k3.symm.trans hcls.1)
  subst hcomp
  obtain ⟨kC, hkC, -⟩ := hcls.2
  refine W.aast hx hb hc (fun z h => by cases h) (fun h => by cases h) k1 k2 rfl hkC ⟨h0, by show _ < (arrV _ _ _).slots.size; rw [arrV_size]; exact hlt⟩ g1 (fun z h => by rw [g3] at h; cases h) (by rw [g2]; exact hkC) (by rw [g2]; exact va_assign hcls) rfl rfl hd fun H1 e z oq => ?_
  refine kk p l ev s mth args below meth cd H1 _ ls d0 hx hb hml hr hk hown hts hin hK hd0 hbs (hM.put ha z oq rfl (fun b hb => fv_sR hb) (fun b hb => av_sR hb) ?_) (hS.put z oq (hM.2.2.2 a _ ha).1) hL
  show H1[a]? = some (vp_cell _ (_, av (sR m a i.toNatClampNeg (some b)) 4 a))
  rw [e]
  show some ((arrV _ _ _).setSlot _ _) = some (arrV _ _ (fun j => va_rf (gR (sR m a i.toNatClampNeg (some b)) a j)))
  rw [arrV_store]
  congr 2
  funext j
  by_cases hj : j = i.toNatClampNeg
  · subst hj
    simp [updV, gR, sR, va_rf]
  · simp [updV, gR, sR, hj]
theorem vv_alen (q : Nat) {a t : Nat} (hd : decode cc pc = .ok (.arraylength, 1)) (hq : pc + 1 = q) (ht : t < 5) (ha : K a = some (.inr (t, lenK K a))) (kk : VV w own cc nL ret rm ini Q K q L (.int (Int32.ofNat (lenK K a)) :: st) cl sl m) : VV w own cc nL ret rm ini Q K pc L (.ref a :: st) cl sl m := by
  intro p l ev s mth args below meth cd H locs ls d0 hx hb hml hr hk hown hts hin hK hd0 hbs hM hS hL
  subst hq
  have hc : H[a]? = some (vp_cell _ (_, av m t a)) := (hM.2.2.2 a _ ha).2
  have hKs := (sd_KK (d := d0) hK).1
  match t, ht, ha, hc with
  | 0, _, ha, hc => exact W.alen (n := Int32.ofNat (lenK K a)) hx hb hc ((hKs.2 0 _ rfl).1 (lenK K a) (fun j => .int (gI m a j))) (by show Int32.ofNat (arrV _ _ _).slots.size = _; rw [arrV_size]) rfl rfl hd (kk p l ev s mth args below meth cd H locs ls d0 hx hb hml hr hk hown hts hin hK hd0 hbs hM hS hL)
  | 1, _, ha, hc => exact W.alen (n := Int32.ofNat (lenK K a)) hx hb hc ((hKs.2 1 _ rfl).1 (lenK K a) (fun j => .long (gJ m a j))) (by show Int32.ofNat (arrV _ _ _).slots.size = _; rw [arrV_size]) rfl rfl hd (kk p l ev s mth args below meth cd H locs ls d0 hx hb hml hr hk hown hts hin hK hd0 hbs hM hS hL)
  | 2, _, ha, hc => exact W.alen (n := Int32.ofNat (lenK K a)) hx hb hc ((hKs.2 2 _ rfl).1 (lenK K a) (fun j => .int (gI m a j))) (by show Int32.ofNat (arrV _ _ _).slots.size = _; rw [arrV_size]) rfl rfl hd (kk p l ev s mth args below meth cd H locs ls d0 hx hb hml hr hk hown hts hin hK hd0 hbs hM hS hL)
  | 3, _, ha, hc => exact W.alen (n := Int32.ofNat (lenK K a)) hx hb hc ((hKs.2 3 _ rfl).1 (lenK K a) (fun j => va_rf (gR m a j))) (by show Int32.ofNat (arrV _ _ _).slots.size = _; rw [arrV_size]) rfl rfl hd (kk p l ev s mth args below meth cd H locs ls d0 hx hb hml hr hk hown hts hin hK hd0 hbs hM hS hL)
  | 4, _, ha, hc => exact W.alen (n := Int32.ofNat (lenK K a)) hx hb hc ((hKs.2 4 _ rfl).1 (lenK K a) (fun j => va_rf (gR m a j))) (by show Int32.ofNat (arrV _ _ _).slots.size = _; rw [arrV_size]) rfl rfl hd (kk p l ev s mth args below meth cd H locs ls d0 hx hb hml hr hk hown hts hin hK hd0 hbs hM hS hL)
  | t + 5, h, _, _ => exact absurd h (by omega)
theorem KK.S {w : Wo} {s : State} {H : Heap} {locs : List Loc} {K : Kn} {m : Mem} (hM : HM w K m H) (hS : va_S (Aw w) s.heap H locs) : va_S (Aw w) w.2.2.1 H locs := ⟨hM.2.1, fun q h1 _ => hM.2.2.1 q h1, hS.2.2⟩
theorem vv_gets (q k : Nat) {idx : Nat} (hd : decode cc pc = .ok (.getstatic idx, 3)) (hq : pc + 3 = q) (hk0 : k < 3) (hl : (own, idx, stN k) ∈ nsF) (kk : VV w own cc nL ret rm ini Q K q L (.ref (w.2.2.2.1 k) :: st) cl sl m) : VV w own cc nL ret rm ini Q K pc L st cl sl m := by
  intro p l ev s mth args below meth cd H locs ls d0 hx hb hml hr hk hown hts hin hK hd0 hbs hM hS hL
  subst hq
  obtain ⟨cf, kf, fi, f, a, cell, h1, h2, h3, h4, h5, h6, h7, h8⟩ := ((sd_KK (d := d0) hK).2.1 k hk0).1
  have hlt : a < w.2.2.1.size := (Array.getElem?_eq_some_iff.mp h5).1
  have hown' : (s.setDrawn d0).vm.findClass own = some mth.cls := hown
  exact va_WgetsN (s := s.setDrawn d0) hx hb hown' (va_Nw.use rfl ((sd_KK (d := d0) hK).2.2.2.2.1 _ hl)) h1 h2 h3 h4 (by rw [hM.2.2.1 a hlt]; exact h5) (by intro z; rw [z] at h6; cases h6) h7 rfl hd (kk p l ev s mth args below meth cd H locs ls d0 hx hb hml hr hk hown hts hin hK hd0 hbs hM hS hL)
theorem vv_sald (q k : Nat) {i v : Int32} (hd : decode cc pc = .ok (.iaload, 1)) (hq : pc + 1 = q) (hk0 : k < 3) (hv : stA k i = some v) (kk : VV w own cc nL ret rm ini Q K q L (.int v :: st) cl sl m) : VV w own cc nL ret rm ini Q K pc L (.int i :: .ref (w.2.2.2.1 k) :: st) cl sl m := by
  intro p l ev s mth args below meth cd H locs ls d0 hx hb hml hr hk hown hts hin hK hd0 hbs hM hS hL
  subst hq
  obtain ⟨hi, rfl⟩ := op_if hv
  obtain ⟨cell, h1, h2, h3, h4, h5, h6, h7⟩ := ((sd_KK (d := d0) hK).2.1 k hk0).2
  have hlt : w.2.2.2.1 k < w.2.2.1.size := (Array.getElem?_eq_some_iff.mp h1).1
  have hin2 := inb_in hi
  exact W.iald hx hb (by rw [hM.2.2.1 _ hlt]; exact h1) h2 h3 (by
    intro z
    rcases z with z | z
    · exact hin2 (Or.inl z)
    · exact hin2 (Or.inr (Nat.le_trans h4 z))) (h6 _ (Nat.not_le.mp fun z => hin2 (Or.inr z))) rfl rfl hd (kk p l ev s mth args below meth cd H locs ls d0 hx hb hml hr hk hown hts hin hK hd0 hbs hM hS hL)
theorem vv_scr (q : Nat) {i : Int32} (hd : decode cc pc = .ok (.iaload, 1)) (hq : pc + 1 = q) (hi : inb i w.2.2.2.2.2.1 = true) (kk : VV w own cc nL ret rm ini Q K q L (.int (w.2.2.2.2.2.2 i.toNatClampNeg) :: st) cl sl m) : VV w own cc nL ret rm ini Q K pc L (.int i :: .ref w.2.2.2.2.1 :: st) cl sl m := by
  intro p l ev s mth args below meth cd H locs ls d0 hx hb hml hr hk hown hts hin hK hd0 hbs hM hS hL
  subst hq
  obtain ⟨scr, h1, h2, h3, h4, h5⟩ := (sd_KK (d := d0) hK).2.2.1.1
  have hin2 := inb_in hi
  exact W.iald hx hb (by rw [hM.2.2.1 _ hK.2.2.1.2]; exact h1) h2 h3 (by rw [h4]; exact hin2) (h5 _ (Nat.not_le.mp fun z => hin2 (Or.inr z))) rfl rfl hd (kk p l ev s mth args below meth cd H locs ls d0 hx hb hml hr hk hown hts hin hK hd0 hbs hM hS hL)
theorem vv_scl (q : Nat) (hd : decode cc pc = .ok (.arraylength, 1)) (hq : pc + 1 = q) (kk : VV w own cc nL ret rm ini Q K q L (.int (Int32.ofNat w.2.2.2.2.2.1) :: st) cl sl m) : VV w own cc nL ret rm ini Q K pc L (.ref w.2.2.2.2.1 :: st) cl sl m := by
  intro p l ev s mth args below meth cd H locs ls d0 hx hb hml hr hk hown hts hin hK hd0 hbs hM hS hL
  subst hq
  obtain ⟨scr, h1, h2, h3, h4, h5⟩ := (sd_KK (d := d0) hK).2.2.1.1
  exact W.alen hx hb (by rw [hM.2.2.1 _ hK.2.2.1.2]; exact h1) h2 (by rw [h4]) rfl rfl hd (kk p l ev s mth args below meth cd H locs ls d0 hx hb hml hr hk hown hts hin hK hd0 hbs hM hS hL)
end VH
