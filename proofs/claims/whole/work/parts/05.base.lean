/-! ===== memory: what the machine's heap holds of the run's own cells, by kinds; the walk's judgement VV ===== -/
/-- kind of a cell: an object of class number c, or an array (tag, length); tags: 0 int, 1 long, 2 boolean, 3 Series, 4 Block -/
abbrev Kd : Type := Nat ⊕ (Nat × Nat)
abbrev Kn : Type := Nat → Option Kd
/-- size of the heap; whole numbers, longs, references by address and place -/
abbrev Mem : Type := Nat × (Nat → Nat → Int32) × (Nat → Nat → Int64) × (Nat → Nat → Option Nat)
def szm (m : Mem) : Nat := m.1
def gI (m : Mem) (a k : Nat) : Int32 := m.2.1 a k
def gJ (m : Mem) (a k : Nat) : Int64 := m.2.2.1 a k
def gR (m : Mem) (a k : Nat) : Option Nat := m.2.2.2 a k
def sI (m : Mem) (a k : Nat) (v : Int32) : Mem := (m.1, fun b j => if b = a ∧ j = k then v else m.2.1 b j, m.2.2.1, m.2.2.2)
def sJ (m : Mem) (a k : Nat) (v : Int64) : Mem := (m.1, m.2.1, fun b j => if b = a ∧ j = k then v else m.2.2.1 b j, m.2.2.2)
def sR (m : Mem) (a k : Nat) (v : Option Nat) : Mem := (m.1, m.2.1, m.2.2.1, fun b j => if b = a ∧ j = k then v else m.2.2.2 b j)
/-- a row of whole numbers is copied -/
def cpI (m : Mem) (a b sp dp n : Nat) : Mem := (m.1, fun q j => if q = b then va_cpy (m.2.1 a) (m.2.1 b) sp dp n j else m.2.1 q j, m.2.2.1, m.2.2.2)
/-- a cell more, with zeros -/
def bump (m : Mem) : Mem := (m.1 + 1, fun q j => if q = m.1 then 0 else m.2.1 q j, fun q j => if q = m.1 then 0 else m.2.2.1 q j, fun q j => if q = m.1 then none else m.2.2.2 q j)
def upK (K : Kn) (a : Nat) (k : Kd) : Kn := fun q => match K q with
  | some x => some x
  | none => if q = a then some k else none
theorem upK_old {K : Kn} {a : Nat} {k : Kd} {q : Nat} {c : Kd} (h : K q = some c) : upK K a k q = some c := by simp [upK, h]
theorem upK_new {K : Kn} {a : Nat} {k : Kd} (h : K a = none) : upK K a k a = some k := by simp [upK, h]
/-- one name for a value -/
def bd {α β : Type} (x : α) (f : α → Option β) : Option β := f x
theorem bd_s {α β : Type} {x : α} {f : α → Option β} {y : β} (h : bd x f = some y) : ∃ a, a = x ∧ f a = some y := ⟨x, rfl, h⟩
def caseO {α : Type} (o : Option Nat) (a : Option α) (f : Nat → Option α) : Option α := match o with
  | none => a
  | some b => f b
theorem caseO_s {α : Type} {o : Option Nat} {a : Option α} {f : Nat → Option α} {y : α} (h : caseO o a f = some y) : (o = none ∧ a = some y) ∨ ∃ b, o = some b ∧ f b = some y := by
  cases o with
  | none => exact Or.inl ⟨rfl, h⟩
  | some b => exact Or.inr ⟨b, rfl, h⟩
/-- steps of a loop, more than any run needs -/
def FU : Nat := 1000000
/-- length of an array -/
def lenK (K : Kn) (a : Nat) : Nat := match K a with
  | some (.inr x) => x.2
  | _ => 0
/-- an index that is inside -/
def inb (i : Int32) (n : Nat) : Bool := decide (0 ≤ i.toInt ∧ i.toInt < (n : Int))
theorem inb_in {i : Int32} {n : Nat} (h : inb i n = true) : vp_in i n := vp_in_iff.mpr (of_decide_eq_true h)
/-- a reference to an object of a class, to an array of a kind -/
def ldO (K : Kn) (m : Mem) (a k c : Nat) : Option Nat := match gR m a k with
  | none => none
  | some b => if K b = some (.inl c) then some b else none
def ldA (K : Kn) (m : Mem) (a k t : Nat) : Option Nat := match gR m a k with
  | none => none
  | some b => if K b = some (.inr (t, lenK K b)) then some b else none
theorem ldO_spec {K : Kn} {m : Mem} {a k c b : Nat} (h : ldO K m a k c = some b) : gR m a k = some b ∧ K b = some (.inl c) := by
  unfold ldO at h
  cases hg : gR m a k with
  | none => rw [hg] at h; cases h
  | some x =>
    rw [hg] at h
    by_cases hk : K x = some (.inl c)
    · simp only [hk, if_true, Option.some.injEq] at h
      subst h; exact ⟨rfl, hk⟩
    · simp only [hk, if_false] at h; cases h
theorem ldA_spec {K : Kn} {m : Mem} {a k t b : Nat} (h : ldA K m a k t = some b) : gR m a k = some b ∧ K b = some (.inr (t, lenK K b)) := by
  unfold ldA at h
  cases hg : gR m a k with
  | none => rw [hg] at h; cases h
  | some x =>
    rw [hg] at h
    by_cases hk : K x = some (.inr (t, lenK K x))
    · simp only [if_pos hk, Option.some.injEq] at h
      subst h; exact ⟨rfl, hk⟩
    · simp only [if_neg hk] at h; cases h
/-- reading and writing arrays -/
def alI (K : Kn) (m : Mem) (a : Nat) (i : Int32) : Option Int32 := if inb i (lenK K a) = true then some (gI m a i.toNatClampNeg) else none
def alJ (K : Kn) (m : Mem) (a : Nat) (i : Int32) : Option Int64 := if inb i (lenK K a) = true then some (gJ m a i.toNatClampNeg) else none
def alO (K : Kn) (m : Mem) (a : Nat) (i : Int32) (c : Nat) : Option Nat := if inb i (lenK K a) = true then ldO K m a i.toNatClampNeg c else none
def asI (K : Kn) (m : Mem) (a : Nat) (i : Int32) (v : Int32) : Option Mem := if inb i (lenK K a) = true then some (sI m a i.toNatClampNeg v) else none
def asZ (K : Kn) (m : Mem) (a : Nat) (i : Int32) (v : Int32) : Option Mem := if inb i (lenK K a) = true ∧ (v = 0 ∨ v = 1) then some (sI m a i.toNatClampNeg v) else none
def asJ (K : Kn) (m : Mem) (a : Nat) (i : Int32) (v : Int64) : Option Mem := if inb i (lenK K a) = true then some (sJ m a i.toNatClampNeg v) else none
def asO (K : Kn) (m : Mem) (a : Nat) (i : Int32) (b : Nat) : Option Mem := if inb i (lenK K a) = true then some (sR m a i.toNatClampNeg (some b)) else none
theorem op_if {α : Type} {c : Prop} [Decidable c] {x y : α} (h : (if c then some x else none) = some y) : c ∧ x = y := by
  by_cases hc : c
  · rw [if_pos hc] at h; exact ⟨hc, Option.some.inj h⟩
  · rw [if_neg hc] at h; cases h
/-- a guard -/
def gd {α : Type} (c : Prop) [Decidable c] (x : Option α) : Option α := if c then x else none
theorem gd_s {α : Type} {c : Prop} [Decidable c] {x : Option α} {y : α} (h : gd c x = some y) : c ∧ x = some y := by
  unfold gd at h
  by_cases hc : c
  · rw [if_pos hc] at h; exact ⟨hc, h⟩
  · rw [if_neg hc] at h; cases h
theorem gd_t {α : Type} {c : Prop} [Decidable c] {x : Option α} (hc : c) : gd c x = x := if_pos hc
theorem bind_s {α β : Type} {x : Option α} {f : α → Option β} {y : β} (h : x.bind f = some y) : ∃ a, x = some a ∧ f a = some y := by
  cases x with
  | none => cases h
  | some a => exact ⟨a, rfl, h⟩
/-- types of fields -/
def tyOf (c : Nat) : Nat → FieldType := match c with
  | 0 => tyX0
  | 1 => tyX1
  | 2 => tyX2
  | 3 => tyX4
  | 4 => tyX5
  | 5 => tyX6
  | 6 => tyX7
  | 7 => tyX8
  | _ => tyX9
def vlF (m : Mem) (ty : FieldType) (a k : Nat) : Value := match ty with
  | .long => .long (gJ m a k)
  | .object _ => va_rf (gR m a k)
  | .array _ => va_rf (gR m a k)
  | _ => .int (gI m a k)
def fv (m : Mem) (c a k : Nat) : Value := vlF m (tyOf c k) a k
def av (m : Mem) (t a : Nat) : (Nat → Int32) ⊕ (Nat → Int64) ⊕ (Nat → UInt32) ⊕ (Nat → UInt64) ⊕ (Nat → Option Nat) := match t with
  | 0 => .inl (gI m a)
  | 1 => .inr (.inl (gJ m a))
  | 2 => .inl (gI m a)
  | _ => .inr (.inr (.inr (.inr (gR m a))))
/-- the world: class numbers and slots; array classes by tag; the heap at the law's start; the static rows' addresses; the script -/
abbrev Wo : Type := va_G × (Nat → ClassId) × Heap × (Nat → Nat) × (Nat × Nat × (Nat → Int32))
def Aw (w : Wo) : Nat → Prop := fun q => w.2.2.1.size ≤ q
abbrev tyA (t : Nat) : FieldType := match t with
  | 0 => .int
  | 1 => .long
  | 2 => .boolean
  | 3 => .object "SeriesPress$Series"
  | _ => .object "SeriesPress$Block"
def okc (w : Wo) (m : Mem) (a : Nat) (k : Kd) (H : Heap) : Prop := match k with
  | .inl c => ∃ r : vw_C, vwCl[c]? = some r ∧ t_OB a (w.1.1 c) r.2.2 (w.1.2 c) H (fv m c a)
  | .inr x => H[a]? = some (vp_cell (w.2.1 x.1) (x.2, av m x.1 a))
def HM (w : Wo) (K : Kn) (m : Mem) (H : Heap) : Prop := H.size = szm m ∧ w.2.2.1.size ≤ H.size ∧ (∀ q : Nat, q < w.2.2.1.size → H[q]? = w.2.2.1[q]?) ∧ ∀ (a : Nat) (k : Kd), K a = some k → w.2.2.1.size ≤ a ∧ okc w m a k H
/-- static rows: 0 CLASS_PREFIX, 1 CLASS_PREFIX_BITS, 2 CLASS_BITS -/
def stN (k : Nat) : String := match k with
  | 0 => "CLASS_PREFIX"
  | 1 => "CLASS_PREFIX_BITS"
  | _ => "CLASS_BITS"
def stV (k j : Nat) : Int32 := match k, j with
  | 0, 0 => 0
  | 0, 1 => 2
  | 0, 2 => 6
  | 0, 3 => 14
  | 0, _ => 15
  | 1, 0 => 1
  | 1, 1 => 2
  | 1, 2 => 3
  | 1, 3 => 4
  | 1, _ => 4
  | _, 0 => 0
  | _, 1 => 7
  | _, 2 => 9
  | _, 3 => 12
  | _, _ => 32
def stA (k : Nat) (i : Int32) : Option Int32 := if inb i 5 = true then some (stV k i.toNatClampNeg) else none
/-- links to private members of the nest -/
def nsM : List (String × Nat × MethodName) := [("SeriesPress$Series", 28, ⟨"SeriesPress$Coder", "<init>", "()V"⟩), ("SeriesPress$Series", 37, ⟨"SeriesPress$Block", "<init>", "()V"⟩), ("SeriesPress", 43, ⟨"SeriesPress$Reader", "<init>", "()V"⟩), ("SeriesPress$Reader", 11, ⟨"SeriesPress$Coder", "<init>", "()V"⟩), ("SeriesPress", 50, ⟨"SeriesPress$Coder", "<init>", "()V"⟩), ("SeriesPress", 66, ⟨"SeriesPress$Block", "<init>", "()V"⟩), ("SeriesPress$Reader", 67, ⟨"SeriesPress", "isStamp", "(I)Z"⟩)]
def nsF : List (String × Nat × String) := [("SeriesPress$Coder", 68, "CLASS_PREFIX_BITS"), ("SeriesPress$Coder", 72, "CLASS_BITS"), ("SeriesPress$Block", 49, "CLASS_PREFIX"), ("SeriesPress$Block", 57, "CLASS_PREFIX_BITS"), ("SeriesPress$Block", 67, "CLASS_BITS"), ("SeriesPress$Reader", 139, "CLASS_BITS")]
def NN (U : State) : Prop := (∀ q ∈ nsM, va_Nw (.methodLinkNest q.1 q.2.1 q.2.2 "SeriesPress") U) ∧ (∀ q ∈ nsF, va_Nw (.fieldLinkNest q.1 q.2.1 "SeriesPress" q.2.2 "[I" "SeriesPress") U) ∧ va_AO "SeriesPress$Series" U ∧ va_AO "SeriesPress$Block" U
/-- what the tables say, and the static rows and the script, of a state's tables and the first heap -/
def KK (w : Wo) (U : State) : Prop := va_K w.1 vwCl [(w.2.1 0, .int), (w.2.1 1, .long), (w.2.1 2, .boolean), (w.2.1 3, .object "SeriesPress$Series"), (w.2.1 4, .object "SeriesPress$Block")] U ∧
  (∀ k : Nat, k < 3 → va_Z "SeriesPress" (stN k) "[I" (.ref (w.2.2.2.1 k)) (Aw w) U w.2.2.1 ∧ va_T .int (w.2.2.2.1 k) 5 (fun j => .int (stV k j)) (Aw w) U w.2.2.1) ∧
  (va_X w.2.2.2.2.1 w.2.2.2.2.2.1 w.2.2.2.2.2.2 U w.2.2.1 ∧ w.2.2.2.2.1 < w.2.2.1.size) ∧ NN U
theorem KK.warm {w : Wo} {u U : State} (hW : u.WarmedH U.vm) (h : KK w u) : KK w U := ⟨h.1.moved hW.alike, fun k hk => ⟨(h.2.1 k hk).1.moved hW.alike, (h.2.1 k hk).2.moved hW.alike⟩, ⟨h.2.2.1.1.moved hW.alike, h.2.2.1.2⟩, fun q hq => va_Nw.warmM hW (h.2.2.2.1 q hq), fun q hq => va_Nw.warmF hW (h.2.2.2.2.1 q hq), h.2.2.2.2.2.1.moved hW.alike, h.2.2.2.2.2.2.moved hW.alike⟩
theorem KK.same {w : Wo} {u U : State} (hv : U.vm = u.vm) (h : KK w u) : KK w U := KK.warm (U := U) (by rw [hv]; exact State.WarmedH.refl u) h
/-- locals by their places -/
def lvh (ls : Array Slot) (nL : Nat) (L : List (Option Value)) : Prop := ls.size = nL ∧ lv_wf ls ∧ ∀ (k : Nat) (v : Value), L[k]? = some (some v) → ls[k]? = some (.val v)
def Lle : List (Option Value) → List (Option Value) → Prop := fun a b => ∀ (k : Nat) (v : Value), a[k]? = some (some v) → b[k]? = some (some v)
theorem lle_nil : Lle [] [] := fun _ _ h => h
theorem lle_s {x : Option Value} {a b : List (Option Value)} (h : Lle a b) : Lle (x :: a) (x :: b) := fun k v hk => by
  cases k with
  | zero => exact hk
  | succ k => exact h k v hk
theorem lle_n {x : Option Value} {a b : List (Option Value)} (h : Lle a b) : Lle (none :: a) (x :: b) := fun k v hk => by
  cases k with
  | zero => simp at hk
  | succ k => exact h k v hk
/-- what a method's end says -/
def QC (w : Wo) (K : Kn) (r : Option Value) (m : Mem) : Array Value → State → Outcome → State → Prop := fun _ st o t => (o = .returned r ∧ HM w K m t.heap) ∧ va_F (Aw w) st t
abbrev Qk : Type := List Frame → Array Value → State → State → Prop
def QM (w : Wo) (K : Kn) (r : Option Value) (m : Mem) (mc ms : Nat) : Qk := fun below args s => MQD lw_cs below (QC w K r m) args s mc ms (Aw w)
/-- the walk: from any context in which the frame of this code stands at pc with these locals and stack, over this memory, the machine comes to Q -/
def VV (w : Wo) (own : String) (cc : ByteArray) (nL : Nat) (ret : Option FieldType) (rm : Room) (ini : Bool) (Q : Qk) (K : Kn) (pc : Nat) (L : List (Option Value)) (st : List Value) (cl sl : Nat) (m : Mem) : Prop :=
  ∀ (p : Program) (l : Launch) (e : Env) (s : State) (mth : MethodId) (args : Array Value) (below : List Frame) (meth : Method) (c : Code) (H : Heap) (locs : List Loc) (ls : Array Slot) (d0 : Drawn),
    p.tables.exec = Jvm.exec → c.code = cc → c.maxLocals = nL → meth.sig.returnType = ret → meth.locks = false → s.vm.findClass own = some mth.cls → (∀ x ∈ lw_gd, x.before args s = true) → (ini = true → meth.name = "<init>") → KK w s → s.drawn.sameBut d0 lw_cs → w.2.2.1.size ≤ s.heap.size → HM w K m H → va_S (Aw w) s.heap H locs → lvh ls nL L →
    W p l e rm (s.setDrawn d0) mth args below meth c H locs cl sl (Q below args s) (F0 mth pc ls st)
/-- a method's contract -/
def MM (w : Wo) (K K' : Kn) (y : MethodName) (cc : ByteArray) (nL : Nat) (ret : Option FieldType) (rm : Room) (av : List Value) (m : Mem) (r : Option Value) (m' : Mem) (mc ms : Nat) : Prop :=
  ∀ l : Launch, MetD lw_cs l y (Cond.code y cc nL ret :: lw_gd) rm (va_Pc av (fun U => HM w K m U.heap ∧ KK w U)) (QC w K' r m') mc ms (Aw w)
