/-! ===== the class's state ===== -/
/-- series by slot, the tape: its bytes, how many -/
abbrev St : Type := (Nat → Option Sr) × (Nat → Nat) × Nat
def stOk (s : St) : Prop := (∀ j S, s.1 j = some S → srOk S) ∧ s.2.2 ≤ 200 ∧ ∀ i, i < s.2.2 → s.2.1 i < 256
def seX (K : Kn) (m : Mem) (a : Nat) (o : Option Sr) : Prop := match o with
  | some S => seR K m a S
  | none => (∃ π, seS K m a π) ∧ gI m a 6 = 0
theorem seX.on {p : Nat → Prop} {K : Kn} {m m' : Mem} {a : Nat} {o : Option Sr} (hok : ∀ S, o = some S → srOk S) (h : seX K m a o) (e : eqOn p m m') (hp : insr a 38 p) : seX K m' a o := by
  cases o with
  | none =>
    obtain ⟨⟨π, h1⟩, h2⟩ := h
    exact ⟨⟨π, h1.on e hp⟩, (e.I (hp a (by omega) (by omega))).trans h2⟩
  | some S => exact seR.on (hok S rfl).2.2.2.2.2.2.2.1 h e hp
def KX (K : Kn) (B : Nat) : Prop := K B = some (.inl 7) ∧ K (B + 1) = some (.inr (3, 4)) ∧ (∀ i, i < 5 → KS K (B + 2 + 38 * i)) ∧ K (B + 198) = some (.inl 3) ∧ K (B + 201) = some (.inl 1) ∧ K (B + 202) = some (.inl 2) ∧ K (B + 203) = some (.inl 0) ∧ K (B + 204) = some (.inr (0, 200))
def scS (K : Kn) (m : Mem) (B : Nat) : Prop := rdS K m (B + 199) ∧ ptS K m (B + 192) 11812 ∧ ptS K m (B + 195) 11812 ∧ gR m (B + 198) 0 = some (B + 192) ∧ gR m (B + 198) 1 = some (B + 195) ∧ gR m (B + 202) 0 = some (B + 199)
/-- where series lie; five, the last one aside -/
def saR (m : Mem) (B : Nat) (sa : Nat → Nat) : Prop := (∀ j, j < 5 → ∃ i, i < 5 ∧ sa j = B + 2 + 38 * i) ∧ (∀ j k, j < 5 → k < 5 → sa j = sa k → j = k) ∧ (∀ j, j < 4 → gR m (B + 1) j = some (sa j)) ∧ gR m B 1 = some (sa 4)
def tpR (m : Mem) (B : Nat) (s : St) : Prop := gR m (B + 203) 0 = some (B + 204) ∧ gI m (B + 203) 1 = nI s.2.2 ∧ ∀ i, i < s.2.2 → gI m (B + 204) i = nI (s.2.1 i)
def roR (m : Mem) (B : Nat) : Prop := gR m B 0 = some (B + 1) ∧ gR m B 2 = some (B + 192) ∧ gR m B 3 = some (B + 195) ∧ gR m B 4 = some (B + 198) ∧ gR m B 5 = some (B + 199) ∧ gR m B 6 = some (B + 201) ∧ gR m B 7 = some (B + 202) ∧ gR m B 8 = some (B + 203)
def RX (K : Kn) (m : Mem) (B : Nat) (s : St) : Prop := KX K B ∧ roR m B ∧ scS K m B ∧ tpR m B s ∧ ∃ sa, saR m B sa ∧ (∀ j, j < 4 → seX K m (sa j) (s.1 j)) ∧ ∃ π, seS K m (sa 4) π
/-- outside of what is written while reading -/
def offq (B : Nat) : Nat → Prop := fun q => q < B + 192 ∨ B + 203 ≤ q
theorem RX.q {K : Kn} {m m' : Mem} {B : Nat} {s : St} (hok : stOk s) (h : RX K m B s) (e : eqOn (offq B) m m') (hsc : scS K m' B) : RX K m' B s := by
  obtain ⟨h1, h2, h3, h4, sa, ⟨a1, a2, a3, a4⟩, h5, π, h6⟩ := h
  have ea : ∀ j, j < 5 → insr (sa j) 38 (offq B) := fun j hj q g1 g2 => by
    obtain ⟨i, hi, hsa⟩ := a1 j hj
    left; omega
  have eB : ∀ k, k < 192 → offq B (B + k) := fun k hk => Or.inl (by omega)
  refine ⟨h1, ?_, hsc, ?_, sa, ⟨a1, a2, fun j hj => (e.R (eB 1 (by omega))).trans (a3 j hj), (e.R (eB 0 (by omega))).trans a4⟩, fun j hj => (h5 j hj).on (fun S hS => hok.1 j S hS) e (ea j (by omega)), π, h6.on e (ea 4 (by omega))⟩
  · obtain ⟨r1, r2, r3, r4, r5, r6, r7, r8⟩ := h2
    have e0 := eB 0 (by omega)
    exact ⟨(e.R e0).trans r1, (e.R e0).trans r2, (e.R e0).trans r3, (e.R e0).trans r4, (e.R e0).trans r5, (e.R e0).trans r6, (e.R e0).trans r7, (e.R e0).trans r8⟩
  · obtain ⟨t1, t2, t3⟩ := h4
    exact ⟨(e.R (Or.inr (by omega))).trans t1, (e.I (Or.inr (by omega))).trans t2, fun i hi => (e.I (Or.inr (by omega))).trans (t3 i hi)⟩
/-- the series of a slot -/
def sl (s : St) (x : Int32) : Option Sr := if 0 ≤ x.toInt ∧ x.toInt < 4 then s.1 x.toNatClampNeg else none
theorem isSlot_ok (x : Int32) : F_X8_isSlot x = some (if 0 ≤ x.toInt ∧ x.toInt < 4 then 1 else 0) := by
  unfold F_X8_isSlot f_X8_isSlot f_X8_isSlot_13
  have c1 : x < 0 ↔ ¬ (0 ≤ x.toInt) := by rw [fa_lt]; show x.toInt < 0 ↔ _; omega
  have c2 : (4 : Int32) ≤ x ↔ ¬ (x.toInt < 4) := by rw [fa_le]; show 4 ≤ x.toInt ↔ _; omega
  by_cases h1 : 0 ≤ x.toInt
  · rw [if_neg (fun z => c1.mp z h1)]
    by_cases h2 : x.toInt < 4
    · rw [if_neg (fun z => c2.mp z h2), if_pos ⟨h1, h2⟩]
    · rw [if_pos (c2.mpr h2), if_neg (fun z => h2 z.2)]
  · rw [if_pos (c1.mpr h1), if_neg (fun z => h1 z.1)]
theorem slot_nI {x : Int32} (h : 0 ≤ x.toInt ∧ x.toInt < 4) : ∃ j, j < 4 ∧ x = nI j ∧ x.toNatClampNeg = j := by
  refine ⟨x.toInt.toNat, by omega, ?_, ?_⟩
  · rw [← iZ_nat, show ((x.toInt.toNat : Nat) : Int) = x.toInt by omega, iZ_of]
  · exact rfl
theorem slot_c {j : Nat} (h : j < 4) : (nI j).toInt = j ∧ (nI j).toNatClampNeg = j := ⟨nI_toInt (by omega), nI_clamp (by omega)⟩
/-- what stands at a slot -/
theorem slot_at {K : Kn} {m : Mem} {B : Nat} {s : St} {sa : Nat → Nat} (h1 : KX K B) (h2 : roR m B) (a : saR m B sa) {j : Nat} (hj : j < 4) : ldA K m B 0 3 = some (B + 1) ∧ alO K m (B + 1) (nI j) 6 = some (sa j) := by
  obtain ⟨i, hi, hs⟩ := a.1 j (by omega)
  refine ⟨ldA_n h2.1 h1.2.1, alO_n (lenK_of h1.2.1) hj (by omega) (a.2.2.1 j hj) ?_⟩
  rw [hs]; exact (h1.2.2.1 i hi).1
theorem isNone_ok {K : Kn} {m : Mem} {B : Nat} {s : St} (h : RX K m B s) (x : Int32) : F_X8_isNone K m B x = some (if (sl s x).isNone = true then 1 else 0) := by
  obtain ⟨h1, h2, h3, h4, sa, a, h5, h6⟩ := h
  unfold F_X8_isNone f_X8_isNone f_X8_isNone_19 sl
  rw [isSlot_ok, bind_e]
  by_cases c : 0 ≤ x.toInt ∧ x.toInt < 4
  · obtain ⟨j, hj, rfl, hc⟩ := slot_nI c
    rw [if_pos c, if_pos c, hc, if_neg (by decide), (slot_at (s := s) h1 h2 a hj).1, bind_e, (slot_at (s := s) h1 h2 a hj).2, bind_e]
    have := h5 j hj
    cases hs : s.1 j with
    | none => rw [hs] at this; rw [if_pos this.2]; rfl
    | some S => rw [hs] at this; obtain ⟨π, -, d⟩ := this; rw [if_neg (by rw [d.1]; decide)]; rfl
  · rw [if_neg c, if_neg c, if_pos rfl]; rfl
/-- the series at hand -/
theorem RX.at {K : Kn} {m : Mem} {B : Nat} {s : St} (hok : stOk s) (h : RX K m B s) {x : Int32} {S : Sr} (hs : sl s x = some S) : ∃ j a, j < 4 ∧ x = nI j ∧ s.1 j = some S ∧ srOk S ∧ ldA K m B 0 3 = some (B + 1) ∧ alO K m (B + 1) x 6 = some a ∧ seR K m a S ∧ (∃ i, i < 5 ∧ a = B + 2 + 38 * i) := by
  obtain ⟨h1, h2, h3, h4, sa, a, h5, h6⟩ := h
  unfold sl at hs
  by_cases c : 0 ≤ x.toInt ∧ x.toInt < 4
  · rw [if_pos c] at hs
    obtain ⟨j, hj, rfl, hc⟩ := slot_nI c
    rw [hc] at hs
    have := h5 j hj
    rw [hs] at this
    exact ⟨j, sa j, hj, rfl, hs, hok.1 j S hs, (slot_at (s := s) h1 h2 a hj).1, (slot_at (s := s) h1 h2 a hj).2, this, a.1 j (by omega)⟩
  · rw [if_neg c] at hs; cases hs
/-- a call of the class: its answer, the state then -/
def okX {α : Type} (K : Kn) (m : Mem) (B : Nat) (F : Option (α × Mem)) (ans : α) (s : St) : Prop := ∃ m', F = some (ans, m') ∧ RX K m' B s ∧ eqOn (off B 205) m m' ∧ szm m' = szm m
theorem okX.same {α : Type} {K : Kn} {m : Mem} {B : Nat} {s : St} {ans : α} (h : RX K m B s) : okX K m B (some (ans, m)) ans s := ⟨m, rfl, h, eqOn.refl m, rfl⟩
/-- gathering at the class -/
theorem ga_ok {B i : Nat} (hi : i < 5) : gaS (B + 2 + 38 * i) (B + 192) (B + 199) := by
  refine ⟨fun q h1 h2 => ?_, fun q h1 h2 => ?_, ?_, ?_, ?_, ?_, ?_⟩
  · unfold off; omega
  · exact ⟨by omega, by omega⟩
  · unfold off; omega
  · unfold off; omega
  · exact ⟨by omega, by omega⟩
  · exact ⟨by omega, by omega⟩
  · exact ⟨by omega, by omega⟩
theorem ga_ok2 {B i : Nat} (hi : i < 5) : gaS (B + 2 + 38 * i) (B + 195) (B + 199) := by
  refine ⟨fun q h1 h2 => ?_, fun q h1 h2 => ?_, ?_, ?_, ?_, ?_, ?_⟩
  · unfold off; omega
  · exact ⟨by omega, by omega⟩
  · unfold off; omega
  · unfold off; omega
  · exact ⟨by omega, by omega⟩
  · exact ⟨by omega, by omega⟩
  · exact ⟨by omega, by omega⟩
/-- a span gathered into mine -/
theorem gath {K : Kn} {m : Mem} {B : Nat} {s : St} (hok : stOk s) (h : RX K m B s) {a : Nat} {S : Sr} (hS : srOk S) (ha : seR K m a S) (hai : ∃ i, i < 5 ∧ a = B + 2 + 38 * i) (x1 x2 : Int32) : ∃ m', F_X7_gather K m a x1 x2 (B + 199) (B + 192) = some m' ∧ ptR K m' (B + 192) 11812 (spanP S x1.toInt x2.toInt) ∧ RX K m' B s ∧ eqOn (offq B) m m' ∧ szm m' = szm m := by
  obtain ⟨i, hi, rfl⟩ := hai
  obtain ⟨m', e1, e2, e3, e4, e5⟩ := gather_ok ha hS (ga_ok hi) h.2.2.1.1 h.2.2.1.2.1 x1 x2
  have eq : eqOn (offq B) m m' := e4.mono (fun q hq => by
    have hq : q < B + 192 ∨ B + 203 ≤ q := hq
    refine ⟨by unfold off; omega, by omega, by omega⟩)
  have hr := h.2.2.1
  refine ⟨m', e1, e2, h.q hok eq ⟨e3, e2.s, hr.2.2.1.on e4 ⟨by unfold off; omega, by omega, by omega⟩, ?_, ?_, ?_⟩, eq, e5⟩
  · exact (e4.R ⟨by unfold off; omega, by omega, by omega⟩).trans hr.2.2.2.1
  · exact (e4.R ⟨by unfold off; omega, by omega, by omega⟩).trans hr.2.2.2.2.1
  · exact (e4.R ⟨by unfold off; omega, by omega, by omega⟩).trans hr.2.2.2.2.2
theorem offq_off {B : Nat} {m m' : Mem} (e : eqOn (offq B) m m') : eqOn (off B 205) m m' := e.mono (fun q hq => by unfold off at hq; unfold offq; omega)
theorem span_all {S : Sr} (h : srOk S) : spanP S 0 2000000000 = allP S := by
  unfold spanP
  rw [List.filter_eq_self]
  intro q hq
  have := allP_le h q hq
  rw [decide_eq_true_eq]; omega
theorem toI_0 : (0 : Int32).toInt = 0 := rfl
theorem toI_2g : (2000000000 : Int32).toInt = 2000000000 := by decide
theorem gathered_ok {K : Kn} {m : Mem} {B : Nat} {s : St} (hok : stOk s) (h : RX K m B s) {x : Int32} {S : Sr} (hs : sl s x = some S) : ∃ m', F_X8_gathered K m B x = some (B + 192, m') ∧ ptR K m' (B + 192) 11812 (allP S) ∧ RX K m' B s ∧ eqOn (offq B) m m' ∧ szm m' = szm m := by
  obtain ⟨j, a, hj, rfl, hsj, hS, e1, e2, e3, e4⟩ := h.at hok hs
  obtain ⟨m', g1, g2, g3, g4, g5⟩ := gath hok h hS e3 e4 0 2000000000
  rw [toI_0, toI_2g, span_all hS] at g2
  unfold F_X8_gathered f_X8_gathered
  have hro := h.2.1
  have hsc := h.2.2.1
  rw [e1, bind_e, e2, bind_e, ldO_n hro.2.2.2.2.1 hsc.1.2.1, bind_e, ldO_n hro.2.1 hsc.2.1.2.2.1, bind_e, g1, bind_e, ldO_n g3.2.1.2.1 g2.2.2.1, bind_e]
  exact ⟨m', rfl, g2, g3, g4, g5⟩
