/-! ===== LAYER 2: memory and numbers ===== -/
theorem gI_sI_s {m : Mem} {a k : Nat} {v : Int32} : gI (sI m a k v) a k = v := by simp [gI, sI]
theorem gI_sI_n {m : Mem} {a k b j : Nat} {v : Int32} (h : b ≠ a ∨ j ≠ k) : gI (sI m a k v) b j = gI m b j := by
  have : ¬ (b = a ∧ j = k) := fun q => h.elim (fun z => z q.1) (fun z => z q.2)
  simp [gI, sI, this]
theorem gJ_sJ_s {m : Mem} {a k : Nat} {v : Int64} : gJ (sJ m a k v) a k = v := by simp [gJ, sJ]
theorem gJ_sJ_n {m : Mem} {a k b j : Nat} {v : Int64} (h : b ≠ a ∨ j ≠ k) : gJ (sJ m a k v) b j = gJ m b j := by
  have : ¬ (b = a ∧ j = k) := fun q => h.elim (fun z => z q.1) (fun z => z q.2)
  simp [gJ, sJ, this]
theorem gR_sR_s {m : Mem} {a k : Nat} {v : Option Nat} : gR (sR m a k v) a k = v := by simp [gR, sR]
theorem gR_sR_n {m : Mem} {a k b j : Nat} {v : Option Nat} (h : b ≠ a ∨ j ≠ k) : gR (sR m a k v) b j = gR m b j := by
  have : ¬ (b = a ∧ j = k) := fun q => h.elim (fun z => z q.1) (fun z => z q.2)
  simp [gR, sR, this]
theorem gI_sJ {m : Mem} {a k b j : Nat} {v : Int64} : gI (sJ m a k v) b j = gI m b j := rfl
theorem gI_sR {m : Mem} {a k b j : Nat} {v : Option Nat} : gI (sR m a k v) b j = gI m b j := rfl
theorem gJ_sI {m : Mem} {a k b j : Nat} {v : Int32} : gJ (sI m a k v) b j = gJ m b j := rfl
theorem gJ_sR {m : Mem} {a k b j : Nat} {v : Option Nat} : gJ (sR m a k v) b j = gJ m b j := rfl
theorem gR_sI {m : Mem} {a k b j : Nat} {v : Int32} : gR (sI m a k v) b j = gR m b j := rfl
theorem gR_sJ {m : Mem} {a k b j : Nat} {v : Int64} : gR (sJ m a k v) b j = gR m b j := rfl
theorem sz_sI {m : Mem} {a k : Nat} {v : Int32} : szm (sI m a k v) = szm m := rfl
theorem sz_sJ {m : Mem} {a k : Nat} {v : Int64} : szm (sJ m a k v) = szm m := rfl
theorem sz_sR {m : Mem} {a k : Nat} {v : Option Nat} : szm (sR m a k v) = szm m := rfl
theorem bd_e {α β : Type} (x : α) (f : α → Option β) : bd x f = f x := rfl
theorem bind_e {α β : Type} (x : α) (f : α → Option β) : (some x).bind f = f x := rfl
theorem caseO_n {α : Type} (a : Option α) (f : Nat → Option α) : caseO none a f = a := rfl
theorem caseO_v {α : Type} (b : Nat) (a : Option α) (f : Nat → Option α) : caseO (some b) a f = f b := rfl
/-- where a loop's function is right for every measure below its steps -/
theorem lpM_rule {β : Type} {z : β} {B : β → β} (P : Nat → β → Prop) (h0 : P 0 z) (hs : ∀ n f, P n f → P (n + 1) (B f)) : ∀ n, P n (lpM z B n) := by
  intro n
  induction n with
  | zero => exact h0
  | succ n ih => exact hs n _ ih
theorem FU_e : FU = 1000000 := rfl
/-- indices -/
theorem inb_n {n N : Nat} (h : n < N) (hN : N < 2147483648) : inb (nI n) N = true := by
  unfold inb
  rw [nI_toInt (by omega)]
  exact decide_eq_true ⟨by omega, by omega⟩
theorem alI_n {K : Kn} {m : Mem} {a n N : Nat} (hl : lenK K a = N) (h : n < N) (hN : N < 2147483648) : alI K m a (nI n) = some (gI m a n) := by
  unfold alI
  rw [hl, if_pos (inb_n h hN), nI_clamp (by omega)]
theorem alJ_n {K : Kn} {m : Mem} {a n N : Nat} (hl : lenK K a = N) (h : n < N) (hN : N < 2147483648) : alJ K m a (nI n) = some (gJ m a n) := by
  unfold alJ
  rw [hl, if_pos (inb_n h hN), nI_clamp (by omega)]
theorem asI_n {K : Kn} {m : Mem} {a n N : Nat} {v : Int32} (hl : lenK K a = N) (h : n < N) (hN : N < 2147483648) : asI K m a (nI n) v = some (sI m a n v) := by
  unfold asI
  rw [hl, if_pos (inb_n h hN), nI_clamp (by omega)]
theorem asJ_n {K : Kn} {m : Mem} {a n N : Nat} {v : Int64} (hl : lenK K a = N) (h : n < N) (hN : N < 2147483648) : asJ K m a (nI n) v = some (sJ m a n v) := by
  unfold asJ
  rw [hl, if_pos (inb_n h hN), nI_clamp (by omega)]
theorem asZ_n {K : Kn} {m : Mem} {a n N : Nat} {v : Int32} (hl : lenK K a = N) (h : n < N) (hN : N < 2147483648) (hv : v = 0 ∨ v = 1) : asZ K m a (nI n) v = some (sI m a n v) := by
  unfold asZ
  rw [hl, if_pos ⟨inb_n h hN, hv⟩, nI_clamp (by omega)]
theorem asO_n {K : Kn} {m : Mem} {a n N b : Nat} (hl : lenK K a = N) (h : n < N) (hN : N < 2147483648) : asO K m a (nI n) b = some (sR m a n (some b)) := by
  unfold asO
  rw [hl, if_pos (inb_n h hN), nI_clamp (by omega)]
theorem ldO_n {K : Kn} {m : Mem} {a k c b : Nat} (h : gR m a k = some b) (hk : K b = some (.inl c)) : ldO K m a k c = some b := by
  unfold ldO
  rw [h]
  simp [hk]
theorem ldA_n {K : Kn} {m : Mem} {a k t b n : Nat} (h : gR m a k = some b) (hk : K b = some (.inr (t, n))) : ldA K m a k t = some b := by
  unfold ldA
  rw [h]
  have := lenK_of hk
  simp [hk, this]
theorem alO_n {K : Kn} {m : Mem} {a n N c b : Nat} (hl : lenK K a = N) (h : n < N) (hN : N < 2147483648) (hg : gR m a n = some b) (hk : K b = some (.inl c)) : alO K m a (nI n) c = some b := by
  unfold alO
  rw [hl, if_pos (inb_n h hN), nI_clamp (by omega)]
  exact ldO_n hg hk
/-- memories that agree where p holds -/
def eqOn (p : Nat → Prop) (m m' : Mem) : Prop := ∀ a, p a → ∀ k, gI m' a k = gI m a k ∧ gJ m' a k = gJ m a k ∧ gR m' a k = gR m a k
theorem eqOn.refl {p : Nat → Prop} (m : Mem) : eqOn p m m := fun _ _ _ => ⟨rfl, rfl, rfl⟩
theorem eqOn.trans {p : Nat → Prop} {m m1 m2 : Mem} (h : eqOn p m m1) (h' : eqOn p m1 m2) : eqOn p m m2 := fun a ha k => ⟨(h' a ha k).1.trans (h a ha k).1, (h' a ha k).2.1.trans (h a ha k).2.1, (h' a ha k).2.2.trans (h a ha k).2.2⟩
theorem eqOn.mono {p p' : Nat → Prop} {m m' : Mem} (h : eqOn p m m') (hp : ∀ a, p' a → p a) : eqOn p' m m' := fun a ha k => h a (hp a ha) k
theorem eqOn.I {p : Nat → Prop} {m m' : Mem} (h : eqOn p m m') {a k : Nat} (ha : p a) : gI m' a k = gI m a k := (h a ha k).1
theorem eqOn.J {p : Nat → Prop} {m m' : Mem} (h : eqOn p m m') {a k : Nat} (ha : p a) : gJ m' a k = gJ m a k := (h a ha k).2.1
theorem eqOn.R {p : Nat → Prop} {m m' : Mem} (h : eqOn p m m') {a k : Nat} (ha : p a) : gR m' a k = gR m a k := (h a ha k).2.2
theorem eqOn_sI {p : Nat → Prop} {m : Mem} {a k : Nat} {v : Int32} (h : ¬ p a) : eqOn p m (sI m a k v) := fun b hb j => ⟨gI_sI_n (Or.inl fun e => h (e ▸ hb)), rfl, rfl⟩
theorem eqOn_sJ {p : Nat → Prop} {m : Mem} {a k : Nat} {v : Int64} (h : ¬ p a) : eqOn p m (sJ m a k v) := fun b hb j => ⟨rfl, gJ_sJ_n (Or.inl fun e => h (e ▸ hb)), rfl⟩
theorem eqOn_sR {p : Nat → Prop} {m : Mem} {a k : Nat} {v : Option Nat} (h : ¬ p a) : eqOn p m (sR m a k v) := fun b hb j => ⟨rfl, rfl, gR_sR_n (Or.inl fun e => h (e ▸ hb))⟩
