/-! ===== each call of the law (printed by program) ===== -/
theorem law_228 {K : Kn} {sL : Nat} {sx : Nat → Int32} {k : Mem → Nat → Nat → Int32 → Option Int32} {m : Mem} {B : Nat} {s : St} {x3 : Int32} (h : IV K m B s) (g : gds sL x3) : ∃ m2 s2, IV K m2 B s2 ∧ f_L_law_228 K sL sx k m B (B + 205) x3 = k m2 B (B + 205) (x3 + (6 : Int32)) := by
  obtain ⟨g1, g2, g3, g4, g5⟩ := g
  obtain ⟨m1, m2, e1, e2, i2⟩ := h.both (G := fun mm => F_X9_begins K mm (B + 205) (sx (x3 + (1 : Int32)).toNatClampNeg) (sx (x3 + (2 : Int32)).toNatClampNeg)) (begins_ok h.1 h.2.1 (sx (x3 + (1 : Int32)).toNatClampNeg) (sx (x3 + (2 : Int32)).toNatClampNeg)) (fun mm hm => mbegins_ok h.1 hm (sx (x3 + (1 : Int32)).toNatClampNeg) (sx (x3 + (2 : Int32)).toNatClampNeg)) (begins_st h.1 (sx (x3 + (1 : Int32)).toNatClampNeg) (sx (x3 + (2 : Int32)).toNatClampNeg))
  refine ⟨m2, _, i2, ?_⟩
  unfold f_L_law_228
  simp only [gd, g1, g2, g3, g4, g5, if_true]
  rw [e1, bind_e]
  dsimp only
  rw [e2, bind_e]
  dsimp only
  rw [if_pos (rfl)]
  rfl
theorem law_261 {K : Kn} {sL : Nat} {sx : Nat → Int32} {k : Mem → Nat → Nat → Int32 → Option Int32} {m : Mem} {B : Nat} {s : St} {x3 : Int32} (h : IV K m B s) (g : gds sL x3) : ∃ m2 s2, IV K m2 B s2 ∧ f_L_law_261 K sL sx k m B (B + 205) x3 = k m2 B (B + 205) (x3 + (6 : Int32)) := by
  obtain ⟨g1, g2, g3, g4, g5⟩ := g
  obtain ⟨m1, m2, e1, e2, i2⟩ := h.both (G := fun mm => F_X9_add K mm (B + 205) (sx (x3 + (1 : Int32)).toNatClampNeg) (sx (x3 + (2 : Int32)).toNatClampNeg) ((lshl ((sx (x3 + (3 : Int32)).toNatClampNeg).toInt64) (32 : Int32)) ||| (((sx (x3 + (4 : Int32)).toNatClampNeg).toInt64) &&& (4294967295 : Int64)))) (add_ok h.1 h.2.1 (sx (x3 + (1 : Int32)).toNatClampNeg) (sx (x3 + (2 : Int32)).toNatClampNeg) ((lshl ((sx (x3 + (3 : Int32)).toNatClampNeg).toInt64) (32 : Int32)) ||| (((sx (x3 + (4 : Int32)).toNatClampNeg).toInt64) &&& (4294967295 : Int64)))) (fun mm hm => madd_ok h.1 hm (sx (x3 + (1 : Int32)).toNatClampNeg) (sx (x3 + (2 : Int32)).toNatClampNeg) ((lshl ((sx (x3 + (3 : Int32)).toNatClampNeg).toInt64) (32 : Int32)) ||| (((sx (x3 + (4 : Int32)).toNatClampNeg).toInt64) &&& (4294967295 : Int64)))) (add_st h.1 (sx (x3 + (1 : Int32)).toNatClampNeg) (sx (x3 + (2 : Int32)).toNatClampNeg) ((lshl ((sx (x3 + (3 : Int32)).toNatClampNeg).toInt64) (32 : Int32)) ||| (((sx (x3 + (4 : Int32)).toNatClampNeg).toInt64) &&& (4294967295 : Int64))))
  refine ⟨m2, _, i2, ?_⟩
  unfold f_L_law_261
  simp only [gd, g1, g2, g3, g4, g5, if_true]
  rw [e1, bind_e]
  dsimp only
  rw [e2, bind_e]
  dsimp only
  rw [if_pos (rfl)]
  rfl
theorem law_334 {K : Kn} {sL : Nat} {sx : Nat → Int32} {k : Mem → Nat → Nat → Int32 → Option Int32} {m : Mem} {B : Nat} {s : St} {x3 : Int32} (h : IV K m B s) (g : gds sL x3) : ∃ m2 s2, IV K m2 B s2 ∧ f_L_law_334 K sL sx k m B (B + 205) x3 = k m2 B (B + 205) (x3 + (6 : Int32)) := by
  obtain ⟨g1, g2, g3, g4, g5⟩ := g
  obtain ⟨m1, m2, e1, e2, i2⟩ := h.both (G := fun mm => F_X9_late K mm (B + 205) (sx (x3 + (1 : Int32)).toNatClampNeg) (sx (x3 + (2 : Int32)).toNatClampNeg) ((lshl ((sx (x3 + (3 : Int32)).toNatClampNeg).toInt64) (32 : Int32)) ||| (((sx (x3 + (4 : Int32)).toNatClampNeg).toInt64) &&& (4294967295 : Int64)))) (late_ok h.1 h.2.1 (sx (x3 + (1 : Int32)).toNatClampNeg) (sx (x3 + (2 : Int32)).toNatClampNeg) ((lshl ((sx (x3 + (3 : Int32)).toNatClampNeg).toInt64) (32 : Int32)) ||| (((sx (x3 + (4 : Int32)).toNatClampNeg).toInt64) &&& (4294967295 : Int64)))) (fun mm hm => mlate_ok h.1 hm (sx (x3 + (1 : Int32)).toNatClampNeg) (sx (x3 + (2 : Int32)).toNatClampNeg) ((lshl ((sx (x3 + (3 : Int32)).toNatClampNeg).toInt64) (32 : Int32)) ||| (((sx (x3 + (4 : Int32)).toNatClampNeg).toInt64) &&& (4294967295 : Int64)))) (late_st h.1 (sx (x3 + (1 : Int32)).toNatClampNeg) (sx (x3 + (2 : Int32)).toNatClampNeg) ((lshl ((sx (x3 + (3 : Int32)).toNatClampNeg).toInt64) (32 : Int32)) ||| (((sx (x3 + (4 : Int32)).toNatClampNeg).toInt64) &&& (4294967295 : Int64))))
  refine ⟨m2, _, i2, ?_⟩
  unfold f_L_law_334
  simp only [gd, g1, g2, g3, g4, g5, if_true]
  rw [e1, bind_e]
  dsimp only
  rw [e2, bind_e]
  dsimp only
  rw [if_pos (rfl)]
  rfl
theorem law_407 {K : Kn} {sL : Nat} {sx : Nat → Int32} {k : Mem → Nat → Nat → Int32 → Option Int32} {m : Mem} {B : Nat} {s : St} {x3 : Int32} (h : IV K m B s) (g : gds sL x3) : ∃ m2 s2, IV K m2 B s2 ∧ f_L_law_407 K sL sx k m B (B + 205) x3 = k m2 B (B + 205) (x3 + (6 : Int32)) := by
  obtain ⟨g1, g2, g3, g4, g5⟩ := g
  obtain ⟨m1, m2, e1, e2, i2⟩ := h.both (G := fun mm => F_X9_would K mm (B + 205) (sx (x3 + (1 : Int32)).toNatClampNeg) (sx (x3 + (2 : Int32)).toNatClampNeg) ((lshl ((sx (x3 + (3 : Int32)).toNatClampNeg).toInt64) (32 : Int32)) ||| (((sx (x3 + (4 : Int32)).toNatClampNeg).toInt64) &&& (4294967295 : Int64)))) (would_ok h.1 h.2.1 (sx (x3 + (1 : Int32)).toNatClampNeg) (sx (x3 + (2 : Int32)).toNatClampNeg) ((lshl ((sx (x3 + (3 : Int32)).toNatClampNeg).toInt64) (32 : Int32)) ||| (((sx (x3 + (4 : Int32)).toNatClampNeg).toInt64) &&& (4294967295 : Int64)))) (fun mm hm => mwould_ok h.1 hm (sx (x3 + (1 : Int32)).toNatClampNeg) (sx (x3 + (2 : Int32)).toNatClampNeg) ((lshl ((sx (x3 + (3 : Int32)).toNatClampNeg).toInt64) (32 : Int32)) ||| (((sx (x3 + (4 : Int32)).toNatClampNeg).toInt64) &&& (4294967295 : Int64)))) h.1
  refine ⟨m2, _, i2, ?_⟩
  unfold f_L_law_407
  simp only [gd, g1, g2, g3, g4, g5, if_true]
  rw [e1, bind_e]
  dsimp only
  rw [e2, bind_e]
  dsimp only
  rw [if_pos (rfl)]
  rfl
theorem law_480 {K : Kn} {sL : Nat} {sx : Nat → Int32} {k : Mem → Nat → Nat → Int32 → Option Int32} {m : Mem} {B : Nat} {s : St} {x3 : Int32} (h : IV K m B s) (g : gds sL x3) : ∃ m2 s2, IV K m2 B s2 ∧ f_L_law_480 K sL sx k m B (B + 205) x3 = k m2 B (B + 205) (x3 + (6 : Int32)) := by
  obtain ⟨g1, g2, g3, g4, g5⟩ := g
  obtain ⟨m1, m2, e1, e2, i2⟩ := h.both (G := fun mm => F_X9_merge K mm (B + 205) (sx (x3 + (1 : Int32)).toNatClampNeg)) (merge_ok h.1 h.2.1 (sx (x3 + (1 : Int32)).toNatClampNeg)) (fun mm hm => mmerge_ok h.1 hm (sx (x3 + (1 : Int32)).toNatClampNeg)) (merge_st h.1 (sx (x3 + (1 : Int32)).toNatClampNeg))
  refine ⟨m2, _, i2, ?_⟩
  unfold f_L_law_480
  simp only [gd, g1, g2, g3, g4, g5, if_true]
  rw [e1, bind_e]
  dsimp only
  rw [e2, bind_e]
  dsimp only
  rw [if_pos (rfl)]
  rfl
theorem law_503 {K : Kn} {sL : Nat} {sx : Nat → Int32} {k : Mem → Nat → Nat → Int32 → Option Int32} {m : Mem} {B : Nat} {s : St} {x3 : Int32} (h : IV K m B s) (g : gds sL x3) : ∃ m2 s2, IV K m2 B s2 ∧ f_L_law_503 K sL sx k m B (B + 205) x3 = k m2 B (B + 205) (x3 + (6 : Int32)) := by
  obtain ⟨g1, g2, g3, g4, g5⟩ := g
  obtain ⟨m1, m2, e1, e2, i2⟩ := h.both (G := fun mm => F_X9_count K mm (B + 205) (sx (x3 + (1 : Int32)).toNatClampNeg) (sx (x3 + (2 : Int32)).toNatClampNeg)) (count_ok h.1 h.2.1 (sx (x3 + (1 : Int32)).toNatClampNeg) (sx (x3 + (2 : Int32)).toNatClampNeg)) (fun mm hm => mcount_ok h.1 hm (sx (x3 + (1 : Int32)).toNatClampNeg) (sx (x3 + (2 : Int32)).toNatClampNeg)) h.1
  refine ⟨m2, _, i2, ?_⟩
  unfold f_L_law_503
  simp only [gd, g1, g2, g3, g4, g5, if_true]
  rw [e1, bind_e]
  dsimp only
  rw [e2, bind_e]
  dsimp only
  rw [if_pos (rfl)]
  rfl
theorem law_536 {K : Kn} {sL : Nat} {sx : Nat → Int32} {k : Mem → Nat → Nat → Int32 → Option Int32} {m : Mem} {B : Nat} {s : St} {x3 : Int32} (h : IV K m B s) (g : gds sL x3) : ∃ m2 s2, IV K m2 B s2 ∧ f_L_law_536 K sL sx k m B (B + 205) x3 = k m2 B (B + 205) (x3 + (6 : Int32)) := by
  obtain ⟨g1, g2, g3, g4, g5⟩ := g
  have e1 := block_ok h.1 h.2.1 (sx (x3 + (1 : Int32)).toNatClampNeg) (sx (x3 + (2 : Int32)).toNatClampNeg) (sx (x3 + (3 : Int32)).toNatClampNeg)
  obtain ⟨m2, e2, i2⟩ := h.one (mblock_ok h.1 h.2.2.1 (sx (x3 + (1 : Int32)).toNatClampNeg) (sx (x3 + (2 : Int32)).toNatClampNeg) (sx (x3 + (3 : Int32)).toNatClampNeg))
  refine ⟨m2, s, i2, ?_⟩
  unfold f_L_law_536
  simp only [gd, g1, g2, g3, g4, g5, if_true]
  rw [e1, bind_e, e2, bind_e]
  dsimp only
  rw [if_pos rfl]
  rfl
theorem law_579 {K : Kn} {sL : Nat} {sx : Nat → Int32} {k : Mem → Nat → Nat → Int32 → Option Int32} {m : Mem} {B : Nat} {s : St} {x3 : Int32} (h : IV K m B s) (g : gds sL x3) : ∃ m2 s2, IV K m2 B s2 ∧ f_L_law_579 K sL sx k m B (B + 205) x3 = k m2 B (B + 205) (x3 + (6 : Int32)) := by
  obtain ⟨g1, g2, g3, g4, g5⟩ := g
  refine ⟨m, s, h, ?_⟩
  have e1 := octet_ok h.1 h.2.1 (sx (x3 + (1 : Int32)).toNatClampNeg) (sx (x3 + (2 : Int32)).toNatClampNeg) (sx (x3 + (3 : Int32)).toNatClampNeg)
  have e2 := moctet_ok h.1 h.2.2.1 (sx (x3 + (1 : Int32)).toNatClampNeg) (sx (x3 + (2 : Int32)).toNatClampNeg) (sx (x3 + (3 : Int32)).toNatClampNeg)
  unfold f_L_law_579
  simp only [gd, g1, g2, g3, g4, g5, if_true]
  rw [e1, bind_e, e2, bind_e, if_pos rfl]
  rfl
theorem law_622 {K : Kn} {sL : Nat} {sx : Nat → Int32} {k : Mem → Nat → Nat → Int32 → Option Int32} {m : Mem} {B : Nat} {s : St} {x3 : Int32} (h : IV K m B s) (g : gds sL x3) : ∃ m2 s2, IV K m2 B s2 ∧ f_L_law_622 K sL sx k m B (B + 205) x3 = k m2 B (B + 205) (x3 + (6 : Int32)) := by
  obtain ⟨g1, g2, g3, g4, g5⟩ := g
  have e1 := fault_ok h.1 h.2.1 (sx (x3 + (1 : Int32)).toNatClampNeg) (sx (x3 + (2 : Int32)).toNatClampNeg) (sx (x3 + (3 : Int32)).toNatClampNeg)
  obtain ⟨m2, e2, i2⟩ := h.one (mfault_ok h.1 h.2.2.1 (sx (x3 + (1 : Int32)).toNatClampNeg) (sx (x3 + (2 : Int32)).toNatClampNeg) (sx (x3 + (3 : Int32)).toNatClampNeg))
  refine ⟨m2, s, i2, ?_⟩
  unfold f_L_law_622
  simp only [gd, g1, g2, g3, g4, g5, if_true]
  rw [e1, bind_e, e2, bind_e]
  dsimp only
  rw [if_pos rfl]
  rfl
theorem law_665 {K : Kn} {sL : Nat} {sx : Nat → Int32} {k : Mem → Nat → Nat → Int32 → Option Int32} {m : Mem} {B : Nat} {s : St} {x3 : Int32} (h : IV K m B s) (g : gds sL x3) : ∃ m2 s2, IV K m2 B s2 ∧ f_L_law_665 K sL sx k m B (B + 205) x3 = k m2 B (B + 205) (x3 + (6 : Int32)) := by
  obtain ⟨g1, g2, g3, g4, g5⟩ := g
  obtain ⟨m1, m2, e1, e2, i2⟩ := h.both (G := fun mm => F_X9_damage K mm (B + 205) (sx (x3 + (1 : Int32)).toNatClampNeg) (sx (x3 + (2 : Int32)).toNatClampNeg) (sx (x3 + (3 : Int32)).toNatClampNeg) (sx (x3 + (4 : Int32)).toNatClampNeg)) (damage_ok h.1 h.2.1 (sx (x3 + (1 : Int32)).toNatClampNeg) (sx (x3 + (2 : Int32)).toNatClampNeg) (sx (x3 + (3 : Int32)).toNatClampNeg) (sx (x3 + (4 : Int32)).toNatClampNeg)) (fun mm hm => mdamage_ok h.1 hm (sx (x3 + (1 : Int32)).toNatClampNeg) (sx (x3 + (2 : Int32)).toNatClampNeg) (sx (x3 + (3 : Int32)).toNatClampNeg) (sx (x3 + (4 : Int32)).toNatClampNeg)) (damage_st h.1 (sx (x3 + (1 : Int32)).toNatClampNeg) (sx (x3 + (2 : Int32)).toNatClampNeg) (sx (x3 + (3 : Int32)).toNatClampNeg) (sx (x3 + (4 : Int32)).toNatClampNeg))
  refine ⟨m2, _, i2, ?_⟩
  unfold f_L_law_665
  simp only [gd, g1, g2, g3, g4, g5, if_true]
  rw [e1, bind_e]
  dsimp only
  rw [e2, bind_e]
  dsimp only
  rw [if_pos (rfl)]
  rfl
theorem law_718 {K : Kn} {sL : Nat} {sx : Nat → Int32} {k : Mem → Nat → Nat → Int32 → Option Int32} {m : Mem} {B : Nat} {s : St} {x3 : Int32} (h : IV K m B s) (g : gds sL x3) : ∃ m2 s2, IV K m2 B s2 ∧ f_L_law_718 K sL sx k m B (B + 205) x3 = k m2 B (B + 205) (x3 + (6 : Int32)) := by
  obtain ⟨g1, g2, g3, g4, g5⟩ := g
  obtain ⟨m1, m2, e1, e2, i2⟩ := h.both (G := fun mm => F_X9_has K mm (B + 205) (sx (x3 + (1 : Int32)).toNatClampNeg) (sx (x3 + (2 : Int32)).toNatClampNeg)) (has_ok h.1 h.2.1 (sx (x3 + (1 : Int32)).toNatClampNeg) (sx (x3 + (2 : Int32)).toNatClampNeg)) (fun mm hm => mhas_ok h.1 hm (sx (x3 + (1 : Int32)).toNatClampNeg) (sx (x3 + (2 : Int32)).toNatClampNeg)) h.1
  refine ⟨m2, _, i2, ?_⟩
  unfold f_L_law_718
  simp only [gd, g1, g2, g3, g4, g5, if_true]
  rw [e1, bind_e]
  dsimp only
  rw [e2, bind_e]
  dsimp only
  rw [if_pos (rfl)]
  rfl
theorem law_751 {K : Kn} {sL : Nat} {sx : Nat → Int32} {k : Mem → Nat → Nat → Int32 → Option Int32} {m : Mem} {B : Nat} {s : St} {x3 : Int32} (h : IV K m B s) (g : gds sL x3) : ∃ m2 s2, IV K m2 B s2 ∧ f_L_law_751 K sL sx k m B (B + 205) x3 = k m2 B (B + 205) (x3 + (6 : Int32)) := by
  obtain ⟨g1, g2, g3, g4, g5⟩ := g
  obtain ⟨m1, m2, e1, e2, i2⟩ := h.both (G := fun mm => F_X9_at K mm (B + 205) (sx (x3 + (1 : Int32)).toNatClampNeg) (sx (x3 + (2 : Int32)).toNatClampNeg)) (at_ok h.1 h.2.1 (sx (x3 + (1 : Int32)).toNatClampNeg) (sx (x3 + (2 : Int32)).toNatClampNeg)) (fun mm hm => mat_ok h.1 hm (sx (x3 + (1 : Int32)).toNatClampNeg) (sx (x3 + (2 : Int32)).toNatClampNeg)) h.1
  refine ⟨m2, _, i2, ?_⟩
  unfold f_L_law_751
  simp only [gd, g1, g2, g3, g4, g5, if_true]
  rw [e1, bind_e]
  dsimp only
  rw [e2, bind_e]
  dsimp only
  rw [if_pos (lg_self _)]
  rfl
theorem law_785 {K : Kn} {sL : Nat} {sx : Nat → Int32} {k : Mem → Nat → Nat → Int32 → Option Int32} {m : Mem} {B : Nat} {s : St} {x3 : Int32} (h : IV K m B s) (g : gds sL x3) : ∃ m2 s2, IV K m2 B s2 ∧ f_L_law_785 K sL sx k m B (B + 205) x3 = k m2 B (B + 205) (x3 + (6 : Int32)) := by
  obtain ⟨g1, g2, g3, g4, g5⟩ := g
  obtain ⟨m1, m2, e1, e2, i2⟩ := h.both (G := fun mm => F_X9_nearest K mm (B + 205) (sx (x3 + (1 : Int32)).toNatClampNeg) (sx (x3 + (2 : Int32)).toNatClampNeg)) (nearest_ok h.1 h.2.1 (sx (x3 + (1 : Int32)).toNatClampNeg) (sx (x3 + (2 : Int32)).toNatClampNeg)) (fun mm hm => mnearest_ok h.1 hm (sx (x3 + (1 : Int32)).toNatClampNeg) (sx (x3 + (2 : Int32)).toNatClampNeg)) h.1
  refine ⟨m2, _, i2, ?_⟩
  unfold f_L_law_785
  simp only [gd, g1, g2, g3, g4, g5, if_true]
  rw [e1, bind_e]
  dsimp only
  rw [e2, bind_e]
  dsimp only
  rw [if_pos (rfl)]
  rfl
theorem law_818 {K : Kn} {sL : Nat} {sx : Nat → Int32} {k : Mem → Nat → Nat → Int32 → Option Int32} {m : Mem} {B : Nat} {s : St} {x3 : Int32} (h : IV K m B s) (g : gds sL x3) : ∃ m2 s2, IV K m2 B s2 ∧ f_L_law_818 K sL sx k m B (B + 205) x3 = k m2 B (B + 205) (x3 + (6 : Int32)) := by
  obtain ⟨g1, g2, g3, g4, g5⟩ := g
  obtain ⟨m1, m2, e1, e2, i2⟩ := h.both (G := fun mm => F_X9_point K mm (B + 205) (sx (x3 + (1 : Int32)).toNatClampNeg) (sx (x3 + (2 : Int32)).toNatClampNeg) (sx (x3 + (3 : Int32)).toNatClampNeg)) (point_ok h.1 h.2.1 (sx (x3 + (1 : Int32)).toNatClampNeg) (sx (x3 + (2 : Int32)).toNatClampNeg) (sx (x3 + (3 : Int32)).toNatClampNeg)) (fun mm hm => mpoint_ok h.1 hm (sx (x3 + (1 : Int32)).toNatClampNeg) (sx (x3 + (2 : Int32)).toNatClampNeg) (sx (x3 + (3 : Int32)).toNatClampNeg)) h.1
  refine ⟨m2, _, i2, ?_⟩
  unfold f_L_law_818
  simp only [gd, g1, g2, g3, g4, g5, if_true]
  rw [e1, bind_e]
  dsimp only
  rw [e2, bind_e]
  dsimp only
  rw [if_pos (lg_self _)]
  rfl
theorem law_862 {K : Kn} {sL : Nat} {sx : Nat → Int32} {k : Mem → Nat → Nat → Int32 → Option Int32} {m : Mem} {B : Nat} {s : St} {x3 : Int32} (h : IV K m B s) (g : gds sL x3) : ∃ m2 s2, IV K m2 B s2 ∧ f_L_law_862 K sL sx k m B (B + 205) x3 = k m2 B (B + 205) (x3 + (6 : Int32)) := by
  obtain ⟨g1, g2, g3, g4, g5⟩ := g
  obtain ⟨m1, m2, e1, e2, i2⟩ := h.both (G := fun mm => F_X9_span K mm (B + 205) (sx (x3 + (1 : Int32)).toNatClampNeg) (sx (x3 + (2 : Int32)).toNatClampNeg) (sx (x3 + (3 : Int32)).toNatClampNeg) (sx (x3 + (4 : Int32)).toNatClampNeg)) (span_ok h.1 h.2.1 (sx (x3 + (1 : Int32)).toNatClampNeg) (sx (x3 + (2 : Int32)).toNatClampNeg) (sx (x3 + (3 : Int32)).toNatClampNeg) (sx (x3 + (4 : Int32)).toNatClampNeg)) (fun mm hm => mspan_ok h.1 hm (sx (x3 + (1 : Int32)).toNatClampNeg) (sx (x3 + (2 : Int32)).toNatClampNeg) (sx (x3 + (3 : Int32)).toNatClampNeg) (sx (x3 + (4 : Int32)).toNatClampNeg)) h.1
  refine ⟨m2, _, i2, ?_⟩
  unfold f_L_law_862
  simp only [gd, g1, g2, g3, g4, g5, if_true]
  rw [e1, bind_e]
  dsimp only
  rw [e2, bind_e]
  dsimp only
  rw [if_pos (rfl)]
  rfl
theorem law_915 {K : Kn} {sL : Nat} {sx : Nat → Int32} {k : Mem → Nat → Nat → Int32 → Option Int32} {m : Mem} {B : Nat} {s : St} {x3 : Int32} (h : IV K m B s) (g : gds sL x3) : ∃ m2 s2, IV K m2 B s2 ∧ f_L_law_915 K sL sx k m B (B + 205) x3 = k m2 B (B + 205) (x3 + (6 : Int32)) := by
  obtain ⟨g1, g2, g3, g4, g5⟩ := g
  obtain ⟨m1, m2, e1, e2, i2⟩ := h.both (G := fun mm => F_X9_value K mm (B + 205) (sx (x3 + (1 : Int32)).toNatClampNeg) (sx (x3 + (2 : Int32)).toNatClampNeg) (sx (x3 + (3 : Int32)).toNatClampNeg) (sx (x3 + (4 : Int32)).toNatClampNeg)) (value_ok h.1 h.2.1 (sx (x3 + (1 : Int32)).toNatClampNeg) (sx (x3 + (2 : Int32)).toNatClampNeg) (sx (x3 + (3 : Int32)).toNatClampNeg) (sx (x3 + (4 : Int32)).toNatClampNeg)) (fun mm hm => mvalue_ok h.1 hm (sx (x3 + (1 : Int32)).toNatClampNeg) (sx (x3 + (2 : Int32)).toNatClampNeg) (sx (x3 + (3 : Int32)).toNatClampNeg) (sx (x3 + (4 : Int32)).toNatClampNeg)) h.1
  refine ⟨m2, _, i2, ?_⟩
  unfold f_L_law_915
  simp only [gd, g1, g2, g3, g4, g5, if_true]
  rw [e1, bind_e]
  dsimp only
  rw [e2, bind_e]
  dsimp only
  rw [if_pos (lg_self _)]
  rfl
theorem law_969 {K : Kn} {sL : Nat} {sx : Nat → Int32} {k : Mem → Nat → Nat → Int32 → Option Int32} {m : Mem} {B : Nat} {s : St} {x3 : Int32} (h : IV K m B s) (g : gds sL x3) : ∃ m2 s2, IV K m2 B s2 ∧ f_L_law_969 K sL sx k m B (B + 205) x3 = k m2 B (B + 205) (x3 + (6 : Int32)) := by
  obtain ⟨g1, g2, g3, g4, g5⟩ := g
  obtain ⟨m1, m2, e1, e2, i2⟩ := h.both (G := fun mm => F_X9_above K mm (B + 205) (sx (x3 + (1 : Int32)).toNatClampNeg) (sx (x3 + (2 : Int32)).toNatClampNeg) (sx (x3 + (3 : Int32)).toNatClampNeg) ((lshl ((sx (x3 + (4 : Int32)).toNatClampNeg).toInt64) (32 : Int32)) ||| (((sx (x3 + (5 : Int32)).toNatClampNeg).toInt64) &&& (4294967295 : Int64)))) (above_ok h.1 h.2.1 (sx (x3 + (1 : Int32)).toNatClampNeg) (sx (x3 + (2 : Int32)).toNatClampNeg) (sx (x3 + (3 : Int32)).toNatClampNeg) ((lshl ((sx (x3 + (4 : Int32)).toNatClampNeg).toInt64) (32 : Int32)) ||| (((sx (x3 + (5 : Int32)).toNatClampNeg).toInt64) &&& (4294967295 : Int64)))) (fun mm hm => mabove_ok h.1 hm (sx (x3 + (1 : Int32)).toNatClampNeg) (sx (x3 + (2 : Int32)).toNatClampNeg) (sx (x3 + (3 : Int32)).toNatClampNeg) ((lshl ((sx (x3 + (4 : Int32)).toNatClampNeg).toInt64) (32 : Int32)) ||| (((sx (x3 + (5 : Int32)).toNatClampNeg).toInt64) &&& (4294967295 : Int64)))) h.1
  refine ⟨m2, _, i2, ?_⟩
  unfold f_L_law_969
  simp only [gd, g1, g2, g3, g4, g5, if_true]
  rw [e1, bind_e]
  dsimp only
  rw [e2, bind_e]
  dsimp only
  rw [if_pos (rfl)]
  rfl
theorem law_1052 {K : Kn} {sL : Nat} {sx : Nat → Int32} {k : Mem → Nat → Nat → Int32 → Option Int32} {m : Mem} {B : Nat} {s : St} {x3 : Int32} (h : IV K m B s) (g : gds sL x3) : ∃ m2 s2, IV K m2 B s2 ∧ f_L_law_1052 K sL sx k m B (B + 205) x3 = k m2 B (B + 205) (x3 + (6 : Int32)) := by
  obtain ⟨g1, g2, g3, g4, g5⟩ := g
  obtain ⟨m1, m2, e1, e2, i2⟩ := h.both (G := fun mm => F_X9_ways K mm (B + 205) (sx (x3 + (1 : Int32)).toNatClampNeg) (sx (x3 + (2 : Int32)).toNatClampNeg)) (ways_ok h.1 h.2.1 (sx (x3 + (1 : Int32)).toNatClampNeg) (sx (x3 + (2 : Int32)).toNatClampNeg)) (fun mm hm => mways_ok h.1 hm (sx (x3 + (1 : Int32)).toNatClampNeg) (sx (x3 + (2 : Int32)).toNatClampNeg)) h.1
  refine ⟨m2, _, i2, ?_⟩
  unfold f_L_law_1052
  simp only [gd, g1, g2, g3, g4, g5, if_true]
  rw [e1, bind_e]
  dsimp only
  rw [e2, bind_e]
  dsimp only
  rw [if_pos (rfl)]
  rfl
theorem law_1085 {K : Kn} {sL : Nat} {sx : Nat → Int32} {k : Mem → Nat → Nat → Int32 → Option Int32} {m : Mem} {B : Nat} {s : St} {x3 : Int32} (h : IV K m B s) (g : gds sL x3) : ∃ m2 s2, IV K m2 B s2 ∧ f_L_law_1085 K sL sx k m B (B + 205) x3 = k m2 B (B + 205) (x3 + (6 : Int32)) := by
  obtain ⟨g1, g2, g3, g4, g5⟩ := g
  have e1 := window_ok h.1 h.2.1 (sx (x3 + (1 : Int32)).toNatClampNeg) (sx (x3 + (2 : Int32)).toNatClampNeg)
  obtain ⟨m2, e2, i2⟩ := h.one (mwindow_ok h.1 h.2.2.1 (sx (x3 + (1 : Int32)).toNatClampNeg) (sx (x3 + (2 : Int32)).toNatClampNeg))
  refine ⟨m2, s, i2, ?_⟩
  unfold f_L_law_1085
  simp only [gd, g1, g2, g3, g4, g5, if_true]
  rw [e1, bind_e, e2, bind_e]
  dsimp only
  rw [if_pos rfl]
  rfl
theorem law_1118 {K : Kn} {sL : Nat} {sx : Nat → Int32} {k : Mem → Nat → Nat → Int32 → Option Int32} {m : Mem} {B : Nat} {s : St} {x3 : Int32} (h : IV K m B s) (g : gds sL x3) : ∃ m2 s2, IV K m2 B s2 ∧ f_L_law_1118 K sL sx k m B (B + 205) x3 = k m2 B (B + 205) (x3 + (6 : Int32)) := by
  obtain ⟨g1, g2, g3, g4, g5⟩ := g
  obtain ⟨m1, m2, e1, e2, i2⟩ := h.both (G := fun mm => F_X9_gap K mm (B + 205) (sx (x3 + (1 : Int32)).toNatClampNeg) (sx (x3 + (2 : Int32)).toNatClampNeg)) (gap_ok h.1 h.2.1 (sx (x3 + (1 : Int32)).toNatClampNeg) (sx (x3 + (2 : Int32)).toNatClampNeg)) (fun mm hm => mgap_ok h.1 hm (sx (x3 + (1 : Int32)).toNatClampNeg) (sx (x3 + (2 : Int32)).toNatClampNeg)) h.1
  refine ⟨m2, _, i2, ?_⟩
  unfold f_L_law_1118
  simp only [gd, g1, g2, g3, g4, g5, if_true]
  rw [e1, bind_e]
  dsimp only
  rw [e2, bind_e]
  dsimp only
  rw [if_pos (rfl)]
  rfl
theorem law_1151 {K : Kn} {sL : Nat} {sx : Nat → Int32} {k : Mem → Nat → Nat → Int32 → Option Int32} {m : Mem} {B : Nat} {s : St} {x3 : Int32} (h : IV K m B s) (g : gds sL x3) : ∃ m2 s2, IV K m2 B s2 ∧ f_L_law_1151 K sL sx k m B (B + 205) x3 = k m2 B (B + 205) (x3 + (6 : Int32)) := by
  obtain ⟨g1, g2, g3, g4, g5⟩ := g
  obtain ⟨m1, m2, e1, e2, i2⟩ := h.both (G := fun mm => F_X9_row K mm (B + 205) (sx (x3 + (1 : Int32)).toNatClampNeg) (sx (x3 + (2 : Int32)).toNatClampNeg)) (row_ok h.1 h.2.1 (sx (x3 + (1 : Int32)).toNatClampNeg) (sx (x3 + (2 : Int32)).toNatClampNeg)) (fun mm hm => mrow_ok h.1 hm (sx (x3 + (1 : Int32)).toNatClampNeg) (sx (x3 + (2 : Int32)).toNatClampNeg)) h.1
  refine ⟨m2, _, i2, ?_⟩
  unfold f_L_law_1151
  simp only [gd, g1, g2, g3, g4, g5, if_true]
  rw [e1, bind_e]
  dsimp only
  rw [e2, bind_e]
  dsimp only
  rw [if_pos (rfl)]
  rfl
theorem law_1184 {K : Kn} {sL : Nat} {sx : Nat → Int32} {k : Mem → Nat → Nat → Int32 → Option Int32} {m : Mem} {B : Nat} {s : St} {x3 : Int32} (h : IV K m B s) (g : gds sL x3) : ∃ m2 s2, IV K m2 B s2 ∧ f_L_law_1184 K sL sx k m B (B + 205) x3 = k m2 B (B + 205) (x3 + (6 : Int32)) := by
  obtain ⟨g1, g2, g3, g4, g5⟩ := g
  obtain ⟨m1, m2, e1, e2, i2⟩ := h.both (G := fun mm => F_X9_both K mm (B + 205) (sx (x3 + (1 : Int32)).toNatClampNeg) (sx (x3 + (2 : Int32)).toNatClampNeg) (sx (x3 + (3 : Int32)).toNatClampNeg)) (both_ok h.1 h.2.1 (sx (x3 + (1 : Int32)).toNatClampNeg) (sx (x3 + (2 : Int32)).toNatClampNeg) (sx (x3 + (3 : Int32)).toNatClampNeg)) (fun mm hm => mboth_ok h.1 hm (sx (x3 + (1 : Int32)).toNatClampNeg) (sx (x3 + (2 : Int32)).toNatClampNeg) (sx (x3 + (3 : Int32)).toNatClampNeg)) h.1
  refine ⟨m2, _, i2, ?_⟩
  unfold f_L_law_1184
  simp only [gd, g1, g2, g3, g4, g5, if_true]
  rw [e1, bind_e]
  dsimp only
  rw [e2, bind_e]
  dsimp only
  rw [if_pos (rfl)]
  rfl
theorem law_1227 {K : Kn} {sL : Nat} {sx : Nat → Int32} {k : Mem → Nat → Nat → Int32 → Option Int32} {m : Mem} {B : Nat} {s : St} {x3 : Int32} (h : IV K m B s) (g : gds sL x3) : ∃ m2 s2, IV K m2 B s2 ∧ f_L_law_1227 K sL sx k m B (B + 205) x3 = k m2 B (B + 205) (x3 + (6 : Int32)) := by
  obtain ⟨g1, g2, g3, g4, g5⟩ := g
  obtain ⟨m1, m2, e1, e2, i2⟩ := h.both (G := fun mm => F_X9_differ K mm (B + 205) (sx (x3 + (1 : Int32)).toNatClampNeg) (sx (x3 + (2 : Int32)).toNatClampNeg)) (differ_ok h.1 h.2.1 (sx (x3 + (1 : Int32)).toNatClampNeg) (sx (x3 + (2 : Int32)).toNatClampNeg)) (fun mm hm => mdiffer_ok h.1 hm (sx (x3 + (1 : Int32)).toNatClampNeg) (sx (x3 + (2 : Int32)).toNatClampNeg)) h.1
  refine ⟨m2, _, i2, ?_⟩
  unfold f_L_law_1227
  simp only [gd, g1, g2, g3, g4, g5, if_true]
  rw [e1, bind_e]
  dsimp only
  rw [e2, bind_e]
  dsimp only
  rw [if_pos (rfl)]
  rfl
theorem law_1260 {K : Kn} {sL : Nat} {sx : Nat → Int32} {k : Mem → Nat → Nat → Int32 → Option Int32} {m : Mem} {B : Nat} {s : St} {x3 : Int32} (h : IV K m B s) (g : gds sL x3) : ∃ m2 s2, IV K m2 B s2 ∧ f_L_law_1260 K sL sx k m B (B + 205) x3 = k m2 B (B + 205) (x3 + (6 : Int32)) := by
  obtain ⟨g1, g2, g3, g4, g5⟩ := g
  obtain ⟨m1, m2, e1, e2, i2⟩ := h.both (G := fun mm => F_X9_best K mm (B + 205) (sx (x3 + (1 : Int32)).toNatClampNeg)) (best_ok h.1 h.2.1 (sx (x3 + (1 : Int32)).toNatClampNeg)) (fun mm hm => mbest_ok h.1 hm (sx (x3 + (1 : Int32)).toNatClampNeg)) h.1
  refine ⟨m2, _, i2, ?_⟩
  unfold f_L_law_1260
  simp only [gd, g1, g2, g3, g4, g5, if_true]
  rw [e1, bind_e]
  dsimp only
  rw [e2, bind_e]
  dsimp only
  rw [if_pos (rfl)]
  rfl
theorem law_1283 {K : Kn} {sL : Nat} {sx : Nat → Int32} {k : Mem → Nat → Nat → Int32 → Option Int32} {m : Mem} {B : Nat} {s : St} {x3 : Int32} (h : IV K m B s) (g : gds sL x3) : ∃ m2 s2, IV K m2 B s2 ∧ f_L_law_1283 K sL sx k m B (B + 205) x3 = k m2 B (B + 205) (x3 + (6 : Int32)) := by
  obtain ⟨g1, g2, g3, g4, g5⟩ := g
  obtain ⟨m1, m2, e1, e2, i2⟩ := h.both (G := fun mm => F_X9_repack K mm (B + 205) (sx (x3 + (1 : Int32)).toNatClampNeg) (sx (x3 + (2 : Int32)).toNatClampNeg)) (repack_ok h.1 h.2.1 (sx (x3 + (1 : Int32)).toNatClampNeg) (sx (x3 + (2 : Int32)).toNatClampNeg)) (fun mm hm => mrepack_ok h.1 hm (sx (x3 + (1 : Int32)).toNatClampNeg) (sx (x3 + (2 : Int32)).toNatClampNeg)) (repack_st h.1 (sx (x3 + (1 : Int32)).toNatClampNeg) (sx (x3 + (2 : Int32)).toNatClampNeg))
  refine ⟨m2, _, i2, ?_⟩
  unfold f_L_law_1283
  simp only [gd, g1, g2, g3, g4, g5, if_true]
  rw [e1, bind_e]
  dsimp only
  rw [e2, bind_e]
  dsimp only
  rw [if_pos (rfl)]
  rfl
theorem law_1316 {K : Kn} {sL : Nat} {sx : Nat → Int32} {k : Mem → Nat → Nat → Int32 → Option Int32} {m : Mem} {B : Nat} {s : St} {x3 : Int32} (h : IV K m B s) (g : gds sL x3) : ∃ m2 s2, IV K m2 B s2 ∧ f_L_law_1316 K sL sx k m B (B + 205) x3 = k m2 B (B + 205) (x3 + (6 : Int32)) := by
  obtain ⟨g1, g2, g3, g4, g5⟩ := g
  obtain ⟨m1, m2, e1, e2, i2⟩ := h.both (G := fun mm => F_X9_thin K mm (B + 205) (sx (x3 + (1 : Int32)).toNatClampNeg) (sx (x3 + (2 : Int32)).toNatClampNeg)) (thin_ok h.1 h.2.1 (sx (x3 + (1 : Int32)).toNatClampNeg) (sx (x3 + (2 : Int32)).toNatClampNeg)) (fun mm hm => mthin_ok h.1 hm (sx (x3 + (1 : Int32)).toNatClampNeg) (sx (x3 + (2 : Int32)).toNatClampNeg)) (thin_st h.1 (sx (x3 + (1 : Int32)).toNatClampNeg) (sx (x3 + (2 : Int32)).toNatClampNeg))
  refine ⟨m2, _, i2, ?_⟩
  unfold f_L_law_1316
  simp only [gd, g1, g2, g3, g4, g5, if_true]
  rw [e1, bind_e]
  dsimp only
  rw [e2, bind_e]
  dsimp only
  rw [if_pos (rfl)]
  rfl
theorem law_1349 {K : Kn} {sL : Nat} {sx : Nat → Int32} {k : Mem → Nat → Nat → Int32 → Option Int32} {m : Mem} {B : Nat} {s : St} {x3 : Int32} (h : IV K m B s) (g : gds sL x3) : ∃ m2 s2, IV K m2 B s2 ∧ f_L_law_1349 K sL sx k m B (B + 205) x3 = k m2 B (B + 205) (x3 + (6 : Int32)) := by
  obtain ⟨g1, g2, g3, g4, g5⟩ := g
  obtain ⟨m1, m2, e1, e2, i2⟩ := h.both (G := fun mm => F_X9_cuts K mm (B + 205) (sx (x3 + (1 : Int32)).toNatClampNeg) (sx (x3 + (2 : Int32)).toNatClampNeg) (sx (x3 + (3 : Int32)).toNatClampNeg)) (cuts_ok h.1 h.2.1 (sx (x3 + (1 : Int32)).toNatClampNeg) (sx (x3 + (2 : Int32)).toNatClampNeg) (sx (x3 + (3 : Int32)).toNatClampNeg)) (fun mm hm => mcuts_ok h.1 hm (sx (x3 + (1 : Int32)).toNatClampNeg) (sx (x3 + (2 : Int32)).toNatClampNeg) (sx (x3 + (3 : Int32)).toNatClampNeg)) (cuts_st h.1 (sx (x3 + (1 : Int32)).toNatClampNeg) (sx (x3 + (2 : Int32)).toNatClampNeg) (sx (x3 + (3 : Int32)).toNatClampNeg))
  refine ⟨m2, _, i2, ?_⟩
  unfold f_L_law_1349
  simp only [gd, g1, g2, g3, g4, g5, if_true]
  rw [e1, bind_e]
  dsimp only
  rw [e2, bind_e]
  dsimp only
  rw [if_pos (rfl)]
  rfl
theorem law_1392 {K : Kn} {sL : Nat} {sx : Nat → Int32} {k : Mem → Nat → Nat → Int32 → Option Int32} {m : Mem} {B : Nat} {s : St} {x3 : Int32} (h : IV K m B s) (g : gds sL x3) : ∃ m2 s2, IV K m2 B s2 ∧ f_L_law_1392 K sL sx k m B (B + 205) x3 = k m2 B (B + 205) (x3 + (6 : Int32)) := by
  obtain ⟨g1, g2, g3, g4, g5⟩ := g
  obtain ⟨m1, m2, e1, e2, i2⟩ := h.both (G := fun mm => F_X9_join K mm (B + 205) (sx (x3 + (1 : Int32)).toNatClampNeg) (sx (x3 + (2 : Int32)).toNatClampNeg) (sx (x3 + (3 : Int32)).toNatClampNeg)) (join_ok h.1 h.2.1 (sx (x3 + (1 : Int32)).toNatClampNeg) (sx (x3 + (2 : Int32)).toNatClampNeg) (sx (x3 + (3 : Int32)).toNatClampNeg)) (fun mm hm => mjoin_ok h.1 hm (sx (x3 + (1 : Int32)).toNatClampNeg) (sx (x3 + (2 : Int32)).toNatClampNeg) (sx (x3 + (3 : Int32)).toNatClampNeg)) (join_st h.1 (sx (x3 + (1 : Int32)).toNatClampNeg) (sx (x3 + (2 : Int32)).toNatClampNeg) (sx (x3 + (3 : Int32)).toNatClampNeg))
  refine ⟨m2, _, i2, ?_⟩
  unfold f_L_law_1392
  simp only [gd, g1, g2, g3, g4, g5, if_true]
  rw [e1, bind_e]
  dsimp only
  rw [e2, bind_e]
  dsimp only
  rw [if_pos (rfl)]
  rfl
theorem law_1435 {K : Kn} {sL : Nat} {sx : Nat → Int32} {k : Mem → Nat → Nat → Int32 → Option Int32} {m : Mem} {B : Nat} {s : St} {x3 : Int32} (h : IV K m B s) (g : gds sL x3) : ∃ m2 s2, IV K m2 B s2 ∧ f_L_law_1435 K sL sx k m B (B + 205) x3 = k m2 B (B + 205) (x3 + (6 : Int32)) := by
  obtain ⟨g1, g2, g3, g4, g5⟩ := g
  obtain ⟨m1, m2, e1, e2, i2⟩ := h.both (G := fun mm => F_X9_rounds K mm (B + 205) (sx (x3 + (1 : Int32)).toNatClampNeg) (sx (x3 + (2 : Int32)).toNatClampNeg)) (rounds_ok h.1 h.2.1 (sx (x3 + (1 : Int32)).toNatClampNeg) (sx (x3 + (2 : Int32)).toNatClampNeg)) (fun mm hm => mrounds_ok h.1 hm (sx (x3 + (1 : Int32)).toNatClampNeg) (sx (x3 + (2 : Int32)).toNatClampNeg)) (rounds_st h.1 (sx (x3 + (1 : Int32)).toNatClampNeg) (sx (x3 + (2 : Int32)).toNatClampNeg))
  refine ⟨m2, _, i2, ?_⟩
  unfold f_L_law_1435
  simp only [gd, g1, g2, g3, g4, g5, if_true]
  rw [e1, bind_e]
  dsimp only
  rw [e2, bind_e]
  dsimp only
  rw [if_pos (rfl)]
  rfl
theorem law_1468 {K : Kn} {sL : Nat} {sx : Nat → Int32} {k : Mem → Nat → Nat → Int32 → Option Int32} {m : Mem} {B : Nat} {s : St} {x3 : Int32} (h : IV K m B s) (g : gds sL x3) : ∃ m2 s2, IV K m2 B s2 ∧ f_L_law_1468 K sL sx k m B (B + 205) x3 = k m2 B (B + 205) (x3 + (6 : Int32)) := by
  obtain ⟨g1, g2, g3, g4, g5⟩ := g
  obtain ⟨m1, m2, e1, e2, i2⟩ := h.both (G := fun mm => F_X9_rounded K mm (B + 205) (sx (x3 + (1 : Int32)).toNatClampNeg) (sx (x3 + (2 : Int32)).toNatClampNeg)) (rounded_ok h.1 h.2.1 (sx (x3 + (1 : Int32)).toNatClampNeg) (sx (x3 + (2 : Int32)).toNatClampNeg)) (fun mm hm => mrounded_ok h.1 hm (sx (x3 + (1 : Int32)).toNatClampNeg) (sx (x3 + (2 : Int32)).toNatClampNeg)) h.1
  refine ⟨m2, _, i2, ?_⟩
  unfold f_L_law_1468
  simp only [gd, g1, g2, g3, g4, g5, if_true]
  rw [e1, bind_e]
  dsimp only
  rw [e2, bind_e]
  dsimp only
  rw [if_pos (rfl)]
  rfl
theorem law_1501 {K : Kn} {sL : Nat} {sx : Nat → Int32} {k : Mem → Nat → Nat → Int32 → Option Int32} {m : Mem} {B : Nat} {s : St} {x3 : Int32} (h : IV K m B s) (g : gds sL x3) : ∃ m2 s2, IV K m2 B s2 ∧ f_L_law_1501 K sL sx k m B (B + 205) x3 = k m2 B (B + 205) (x3 + (6 : Int32)) := by
  obtain ⟨g1, g2, g3, g4, g5⟩ := g
  obtain ⟨m1, m2, e1, e2, i2⟩ := h.both (G := fun mm => F_X9_dearest K mm (B + 205) (sx (x3 + (1 : Int32)).toNatClampNeg) (sx (x3 + (2 : Int32)).toNatClampNeg)) (dearest_ok h.1 h.2.1 (sx (x3 + (1 : Int32)).toNatClampNeg) (sx (x3 + (2 : Int32)).toNatClampNeg)) (fun mm hm => mdearest_ok h.1 hm (sx (x3 + (1 : Int32)).toNatClampNeg) (sx (x3 + (2 : Int32)).toNatClampNeg)) h.1
  refine ⟨m2, _, i2, ?_⟩
  unfold f_L_law_1501
  simp only [gd, g1, g2, g3, g4, g5, if_true]
  rw [e1, bind_e]
  dsimp only
  rw [e2, bind_e]
  dsimp only
  rw [if_pos (rfl)]
  rfl
theorem law_1534 {K : Kn} {sL : Nat} {sx : Nat → Int32} {k : Mem → Nat → Nat → Int32 → Option Int32} {m : Mem} {B : Nat} {s : St} {x3 : Int32} (h : IV K m B s) (g : gds sL x3) : ∃ m2 s2, IV K m2 B s2 ∧ f_L_law_1534 K sL sx k m B (B + 205) x3 = k m2 B (B + 205) (x3 + (6 : Int32)) := by
  obtain ⟨g1, g2, g3, g4, g5⟩ := g
  obtain ⟨m1, m2, e1, e2, i2⟩ := h.both (G := fun mm => F_X9_where K mm (B + 205) (sx (x3 + (1 : Int32)).toNatClampNeg) (sx (x3 + (2 : Int32)).toNatClampNeg)) (where_ok h.1 h.2.1 (sx (x3 + (1 : Int32)).toNatClampNeg) (sx (x3 + (2 : Int32)).toNatClampNeg)) (fun mm hm => mwhere_ok h.1 hm (sx (x3 + (1 : Int32)).toNatClampNeg) (sx (x3 + (2 : Int32)).toNatClampNeg)) h.1
  refine ⟨m2, _, i2, ?_⟩
  unfold f_L_law_1534
  simp only [gd, g1, g2, g3, g4, g5, if_true]
  rw [e1, bind_e]
  dsimp only
  rw [e2, bind_e]
  dsimp only
  rw [if_pos (rfl)]
  rfl
theorem law_1567 {K : Kn} {sL : Nat} {sx : Nat → Int32} {k : Mem → Nat → Nat → Int32 → Option Int32} {m : Mem} {B : Nat} {s : St} {x3 : Int32} (h : IV K m B s) (g : gds sL x3) : ∃ m2 s2, IV K m2 B s2 ∧ f_L_law_1567 K sL sx k m B (B + 205) x3 = k m2 B (B + 205) (x3 + (6 : Int32)) := by
  obtain ⟨g1, g2, g3, g4, g5⟩ := g
  obtain ⟨m1, m2, e1, e2, i2⟩ := h.both (G := fun mm => F_X9_copy K mm (B + 205) (sx (x3 + (1 : Int32)).toNatClampNeg) (sx (x3 + (2 : Int32)).toNatClampNeg)) (copy_ok h.1 h.2.1 (sx (x3 + (1 : Int32)).toNatClampNeg) (sx (x3 + (2 : Int32)).toNatClampNeg)) (fun mm hm => mcopy_ok h.1 hm (sx (x3 + (1 : Int32)).toNatClampNeg) (sx (x3 + (2 : Int32)).toNatClampNeg)) (copy_st h.1 (sx (x3 + (1 : Int32)).toNatClampNeg) (sx (x3 + (2 : Int32)).toNatClampNeg))
  refine ⟨m2, _, i2, ?_⟩
  unfold f_L_law_1567
  simp only [gd, g1, g2, g3, g4, g5, if_true]
  rw [e1, bind_e]
  dsimp only
  rw [e2, bind_e]
  dsimp only
  rw [if_pos (rfl)]
  rfl
theorem law_1600 {K : Kn} {sL : Nat} {sx : Nat → Int32} {k : Mem → Nat → Nat → Int32 → Option Int32} {m : Mem} {B : Nat} {s : St} {x3 : Int32} (h : IV K m B s) (g : gds sL x3) : ∃ m2 s2, IV K m2 B s2 ∧ f_L_law_1600 K sL sx k m B (B + 205) x3 = k m2 B (B + 205) (x3 + (6 : Int32)) := by
  obtain ⟨g1, g2, g3, g4, g5⟩ := g
  obtain ⟨m1, m2, e1, e2, i2⟩ := h.both (G := fun mm => F_X9_mends K mm (B + 205) (sx (x3 + (1 : Int32)).toNatClampNeg) (sx (x3 + (2 : Int32)).toNatClampNeg)) (mends_ok h.1 h.2.1 (sx (x3 + (1 : Int32)).toNatClampNeg) (sx (x3 + (2 : Int32)).toNatClampNeg)) (fun mm hm => mmends_ok h.1 hm (sx (x3 + (1 : Int32)).toNatClampNeg) (sx (x3 + (2 : Int32)).toNatClampNeg)) h.1
  refine ⟨m2, _, i2, ?_⟩
  unfold f_L_law_1600
  simp only [gd, g1, g2, g3, g4, g5, if_true]
  rw [e1, bind_e]
  dsimp only
  rw [e2, bind_e]
  dsimp only
  rw [if_pos (rfl)]
  rfl
theorem law_1633 {K : Kn} {sL : Nat} {sx : Nat → Int32} {k : Mem → Nat → Nat → Int32 → Option Int32} {m : Mem} {B : Nat} {s : St} {x3 : Int32} (h : IV K m B s) (g : gds sL x3) : ∃ m2 s2, IV K m2 B s2 ∧ f_L_law_1633 K sL sx k m B (B + 205) x3 = k m2 B (B + 205) (x3 + (6 : Int32)) := by
  obtain ⟨g1, g2, g3, g4, g5⟩ := g
  obtain ⟨m1, m2, e1, e2, i2⟩ := h.both (G := fun mm => F_X9_mend K mm (B + 205) (sx (x3 + (1 : Int32)).toNatClampNeg) (sx (x3 + (2 : Int32)).toNatClampNeg) (sx (x3 + (3 : Int32)).toNatClampNeg) (sx (x3 + (4 : Int32)).toNatClampNeg)) (mend_ok h.1 h.2.1 (sx (x3 + (1 : Int32)).toNatClampNeg) (sx (x3 + (2 : Int32)).toNatClampNeg) (sx (x3 + (3 : Int32)).toNatClampNeg) (sx (x3 + (4 : Int32)).toNatClampNeg)) (fun mm hm => mmend_ok h.1 hm (sx (x3 + (1 : Int32)).toNatClampNeg) (sx (x3 + (2 : Int32)).toNatClampNeg) (sx (x3 + (3 : Int32)).toNatClampNeg) (sx (x3 + (4 : Int32)).toNatClampNeg)) h.1
  refine ⟨m2, _, i2, ?_⟩
  unfold f_L_law_1633
  simp only [gd, g1, g2, g3, g4, g5, if_true]
  rw [e1, bind_e]
  dsimp only
  rw [e2, bind_e]
  dsimp only
  rw [if_pos (rfl)]
  rfl
theorem law_1686 {K : Kn} {sL : Nat} {sx : Nat → Int32} {k : Mem → Nat → Nat → Int32 → Option Int32} {m : Mem} {B : Nat} {s : St} {x3 : Int32} (h : IV K m B s) (g : gds sL x3) : ∃ m2 s2, IV K m2 B s2 ∧ f_L_law_1686 K sL sx k m B (B + 205) x3 = k m2 B (B + 205) (x3 + (6 : Int32)) := by
  obtain ⟨g1, g2, g3, g4, g5⟩ := g
  obtain ⟨m1, m2, e1, e2, i2⟩ := h.both (G := fun mm => F_X9_seals K mm (B + 205) (sx (x3 + (1 : Int32)).toNatClampNeg)) (seals_ok h.1 h.2.1 (sx (x3 + (1 : Int32)).toNatClampNeg)) (fun mm hm => mseals_ok h.1 hm (sx (x3 + (1 : Int32)).toNatClampNeg)) (seals_st h.1 (sx (x3 + (1 : Int32)).toNatClampNeg))
  refine ⟨m2, _, i2, ?_⟩
  unfold f_L_law_1686
  simp only [gd, g1, g2, g3, g4, g5, if_true]
  rw [e1, bind_e]
  dsimp only
  rw [e2, bind_e]
  dsimp only
  rw [if_pos (rfl)]
  rfl
theorem law_1709 {K : Kn} {sL : Nat} {sx : Nat → Int32} {k : Mem → Nat → Nat → Int32 → Option Int32} {m : Mem} {B : Nat} {s : St} {x3 : Int32} (h : IV K m B s) (g : gds sL x3) : ∃ m2 s2, IV K m2 B s2 ∧ f_L_law_1709 K sL sx k m B (B + 205) x3 = k m2 B (B + 205) (x3 + (6 : Int32)) := by
  obtain ⟨g1, g2, g3, g4, g5⟩ := g
  obtain ⟨m1, m2, e1, e2, i2⟩ := h.both (G := fun mm => F_X9_drops K mm (B + 205) (sx (x3 + (1 : Int32)).toNatClampNeg) (sx (x3 + (2 : Int32)).toNatClampNeg)) (drops_ok h.1 h.2.1 (sx (x3 + (1 : Int32)).toNatClampNeg) (sx (x3 + (2 : Int32)).toNatClampNeg)) (fun mm hm => mdrops_ok h.1 hm (sx (x3 + (1 : Int32)).toNatClampNeg) (sx (x3 + (2 : Int32)).toNatClampNeg)) (drops_st h.1 (sx (x3 + (1 : Int32)).toNatClampNeg) (sx (x3 + (2 : Int32)).toNatClampNeg))
  refine ⟨m2, _, i2, ?_⟩
  unfold f_L_law_1709
  simp only [gd, g1, g2, g3, g4, g5, if_true]
  rw [e1, bind_e]
  dsimp only
  rw [e2, bind_e]
  dsimp only
  rw [if_pos (rfl)]
  rfl
theorem law_1742 {K : Kn} {sL : Nat} {sx : Nat → Int32} {k : Mem → Nat → Nat → Int32 → Option Int32} {m : Mem} {B : Nat} {s : St} {x3 : Int32} (h : IV K m B s) (g : gds sL x3) : ∃ m2 s2, IV K m2 B s2 ∧ f_L_law_1742 K sL sx k m B (B + 205) x3 = k m2 B (B + 205) (x3 + (6 : Int32)) := by
  obtain ⟨g1, g2, g3, g4, g5⟩ := g
  obtain ⟨m1, m2, e1, e2, i2⟩ := h.both (G := fun mm => F_X9_least K mm (B + 205) (sx (x3 + (1 : Int32)).toNatClampNeg) (sx (x3 + (2 : Int32)).toNatClampNeg) (sx (x3 + (3 : Int32)).toNatClampNeg) (sx (x3 + (4 : Int32)).toNatClampNeg)) (least_ok h.1 h.2.1 (sx (x3 + (1 : Int32)).toNatClampNeg) (sx (x3 + (2 : Int32)).toNatClampNeg) (sx (x3 + (3 : Int32)).toNatClampNeg) (sx (x3 + (4 : Int32)).toNatClampNeg)) (fun mm hm => mleast_ok h.1 hm (sx (x3 + (1 : Int32)).toNatClampNeg) (sx (x3 + (2 : Int32)).toNatClampNeg) (sx (x3 + (3 : Int32)).toNatClampNeg) (sx (x3 + (4 : Int32)).toNatClampNeg)) h.1
  refine ⟨m2, _, i2, ?_⟩
  unfold f_L_law_1742
  simp only [gd, g1, g2, g3, g4, g5, if_true]
  rw [e1, bind_e]
  dsimp only
  rw [e2, bind_e]
  dsimp only
  rw [if_pos (lg_self _)]
  rfl
theorem law_1796 {K : Kn} {sL : Nat} {sx : Nat → Int32} {k : Mem → Nat → Nat → Int32 → Option Int32} {m : Mem} {B : Nat} {s : St} {x3 : Int32} (h : IV K m B s) (g : gds sL x3) : ∃ m2 s2, IV K m2 B s2 ∧ f_L_law_1796 K sL sx k m B (B + 205) x3 = k m2 B (B + 205) (x3 + (6 : Int32)) := by
  obtain ⟨g1, g2, g3, g4, g5⟩ := g
  obtain ⟨m1, m2, e1, e2, i2⟩ := h.both (G := fun mm => F_X9_passes K mm (B + 205) (sx (x3 + (1 : Int32)).toNatClampNeg) ((lshl ((sx (x3 + (2 : Int32)).toNatClampNeg).toInt64) (32 : Int32)) ||| (((sx (x3 + (3 : Int32)).toNatClampNeg).toInt64) &&& (4294967295 : Int64)))) (passes_ok h.1 h.2.1 (sx (x3 + (1 : Int32)).toNatClampNeg) ((lshl ((sx (x3 + (2 : Int32)).toNatClampNeg).toInt64) (32 : Int32)) ||| (((sx (x3 + (3 : Int32)).toNatClampNeg).toInt64) &&& (4294967295 : Int64)))) (fun mm hm => mpasses_ok h.1 hm (sx (x3 + (1 : Int32)).toNatClampNeg) ((lshl ((sx (x3 + (2 : Int32)).toNatClampNeg).toInt64) (32 : Int32)) ||| (((sx (x3 + (3 : Int32)).toNatClampNeg).toInt64) &&& (4294967295 : Int64)))) h.1
  refine ⟨m2, _, i2, ?_⟩
  unfold f_L_law_1796
  simp only [gd, g1, g2, g3, g4, g5, if_true]
  rw [e1, bind_e]
  dsimp only
  rw [e2, bind_e]
  dsimp only
  rw [if_pos (rfl)]
  rfl
theorem law_1859 {K : Kn} {sL : Nat} {sx : Nat → Int32} {k : Mem → Nat → Nat → Int32 → Option Int32} {m : Mem} {B : Nat} {s : St} {x3 : Int32} (h : IV K m B s) (g : gds sL x3) : ∃ m2 s2, IV K m2 B s2 ∧ f_L_law_1859 K sL sx k m B (B + 205) x3 = k m2 B (B + 205) (x3 + (6 : Int32)) := by
  obtain ⟨g1, g2, g3, g4, g5⟩ := g
  obtain ⟨m1, m2, e1, e2, i2⟩ := h.both (G := fun mm => F_X9_since K mm (B + 205) (sx (x3 + (1 : Int32)).toNatClampNeg) (sx (x3 + (2 : Int32)).toNatClampNeg)) (since_ok h.1 h.2.1 (sx (x3 + (1 : Int32)).toNatClampNeg) (sx (x3 + (2 : Int32)).toNatClampNeg)) (fun mm hm => msince_ok h.1 hm (sx (x3 + (1 : Int32)).toNatClampNeg) (sx (x3 + (2 : Int32)).toNatClampNeg)) h.1
  refine ⟨m2, _, i2, ?_⟩
  unfold f_L_law_1859
  simp only [gd, g1, g2, g3, g4, g5, if_true]
  rw [e1, bind_e]
  dsimp only
  rw [e2, bind_e]
  dsimp only
  rw [if_pos (rfl)]
  rfl
theorem law_1892 {K : Kn} {sL : Nat} {sx : Nat → Int32} {k : Mem → Nat → Nat → Int32 → Option Int32} {m : Mem} {B : Nat} {s : St} {x3 : Int32} (h : IV K m B s) (g : gds sL x3) : ∃ m2 s2, IV K m2 B s2 ∧ f_L_law_1892 K sL sx k m B (B + 205) x3 = k m2 B (B + 205) (x3 + (6 : Int32)) := by
  obtain ⟨g1, g2, g3, g4, g5⟩ := g
  obtain ⟨m1, m2, e1, e2, i2⟩ := h.both (G := fun mm => F_X9_area K mm (B + 205) (sx (x3 + (1 : Int32)).toNatClampNeg) (sx (x3 + (2 : Int32)).toNatClampNeg) (sx (x3 + (3 : Int32)).toNatClampNeg)) (area_ok h.1 h.2.1 (sx (x3 + (1 : Int32)).toNatClampNeg) (sx (x3 + (2 : Int32)).toNatClampNeg) (sx (x3 + (3 : Int32)).toNatClampNeg)) (fun mm hm => marea_ok h.1 hm (sx (x3 + (1 : Int32)).toNatClampNeg) (sx (x3 + (2 : Int32)).toNatClampNeg) (sx (x3 + (3 : Int32)).toNatClampNeg)) h.1
  refine ⟨m2, _, i2, ?_⟩
  unfold f_L_law_1892
  simp only [gd, g1, g2, g3, g4, g5, if_true]
  rw [e1, bind_e]
  dsimp only
  rw [e2, bind_e]
  dsimp only
  rw [if_pos (lg_self _)]
  rfl
theorem law_1936 {K : Kn} {sL : Nat} {sx : Nat → Int32} {k : Mem → Nat → Nat → Int32 → Option Int32} {m : Mem} {B : Nat} {s : St} {x3 : Int32} (h : IV K m B s) (g : gds sL x3) : ∃ m2 s2, IV K m2 B s2 ∧ f_L_law_1936 K sL sx k m B (B + 205) x3 = k m2 B (B + 205) (x3 + (6 : Int32)) := by
  obtain ⟨g1, g2, g3, g4, g5⟩ := g
  obtain ⟨m1, m2, e1, e2, i2⟩ := h.feed (sx (x3 + (1 : Int32)).toNatClampNeg) (sx (x3 + (2 : Int32)).toNatClampNeg) (sx (x3 + (3 : Int32)).toNatClampNeg) (sx (x3 + (4 : Int32)).toNatClampNeg) (sx (x3 + (5 : Int32)).toNatClampNeg)
  refine ⟨m2, _, i2, ?_⟩
  unfold f_L_law_1936
  simp only [gd, g1, g2, g3, g4, g5, if_true]
  rw [e1, bind_e]
  dsimp only
  rw [e2, bind_e]
  dsimp only
  rw [if_pos (rfl)]
  rfl
theorem law_1999 {K : Kn} {sL : Nat} {sx : Nat → Int32} {k : Mem → Nat → Nat → Int32 → Option Int32} {m : Mem} {B : Nat} {s : St} {x3 : Int32} (h : IV K m B s) (g : gds sL x3) : ∃ m2 s2, IV K m2 B s2 ∧ f_L_law_1999 K sL sx k m B (B + 205) x3 = k m2 B (B + 205) (x3 + (6 : Int32)) := by
  obtain ⟨g1, g2, g3, g4, g5⟩ := g
  obtain ⟨m1, m2, e1, e2, i2⟩ := h.both (G := fun mm => F_X9_end K mm (B + 205) (sx (x3 + (1 : Int32)).toNatClampNeg)) (end_ok h.1 h.2.1 (sx (x3 + (1 : Int32)).toNatClampNeg)) (fun mm hm => mend_ok' h.1 hm (sx (x3 + (1 : Int32)).toNatClampNeg)) (end_st h.1 (sx (x3 + (1 : Int32)).toNatClampNeg))
  refine ⟨m2, _, i2, ?_⟩
  unfold f_L_law_1999
  simp only [gd, g1, g2, g3, g4, g5, if_true]
  rw [e1, bind_e]
  dsimp only
  rw [e2, bind_e]
  dsimp only
  rw [if_pos (rfl)]
  rfl
theorem law_2022 {K : Kn} {sL : Nat} {sx : Nat → Int32} {k : Mem → Nat → Nat → Int32 → Option Int32} {m : Mem} {B : Nat} {s : St} {x3 : Int32} (h : IV K m B s) (g : gds sL x3) : ∃ m2 s2, IV K m2 B s2 ∧ f_L_law_2022 K sL sx k m B (B + 205) x3 = k m2 B (B + 205) (x3 + (6 : Int32)) := by
  obtain ⟨g1, g2, g3, g4, g5⟩ := g
  obtain ⟨m1, m2, e1, e2, i2⟩ := h.both (G := fun mm => F_X9_takes K mm (B + 205) (sx (x3 + (1 : Int32)).toNatClampNeg)) (takes_ok h.1 h.2.1 (sx (x3 + (1 : Int32)).toNatClampNeg)) (fun mm hm => mtakes_ok h.1 hm (sx (x3 + (1 : Int32)).toNatClampNeg)) (takes_st h.1 (sx (x3 + (1 : Int32)).toNatClampNeg))
  refine ⟨m2, _, i2, ?_⟩
  unfold f_L_law_2022
  simp only [gd, g1, g2, g3, g4, g5, if_true]
  rw [e1, bind_e]
  dsimp only
  rw [e2, bind_e]
  dsimp only
  rw [if_pos (rfl)]
  rfl
theorem law_2045 {K : Kn} {sL : Nat} {sx : Nat → Int32} {k : Mem → Nat → Nat → Int32 → Option Int32} {m : Mem} {B : Nat} {s : St} {x3 : Int32} (h : IV K m B s) (g : gds sL x3) : ∃ m2 s2, IV K m2 B s2 ∧ f_L_law_2045 K sL sx k m B (B + 205) x3 = k m2 B (B + 205) (x3 + (6 : Int32)) := by
  obtain ⟨g1, g2, g3, g4, g5⟩ := g
  refine ⟨m, s, h, ?_⟩
  have e1 := taped_ok h.2.1
  have e2 : F_X9_taped K m (B + 205) = _ := mtaped_ok h.2.2.1
  unfold f_L_law_2045
  rw [e1, bind_e, e2, bind_e, if_pos rfl]
  rfl
