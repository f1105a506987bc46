/-! ===== an empty program: no loop goes round ===== -/
theorem loop_x {σ ρ : Type} {body : σ → Option (σ ⊕ ρ)} {s : σ} {r : ρ} (h : body s = some (.inr r)) : loop body s = some r := by
  rw [loop_eq, h]; rfl
/-- the reference's program is empty -/
def E8 (D : DT) : Prop := D 188 0 = 0 ∧ D 188 1 = 0 ∧ D 188 2 = 0 ∧ D 188 3 = 0 ∧ D 188 4 = 64 ∧ D 188 5 = 4 ∧ D 188 6 = 0
theorem E8.cg {D D' : DT} (h : E8 D) (e : D' 188 = D 188) : E8 D' := by unfold E8; rw [e]; exact h
theorem z_funs {D : DT} (h : D 188 0 = 0) : m_X12_funs D = some 0 := by
  unfold m_X12_funs; rw [ard_v (i := 0) 0 rfl (by decide), h]; rfl
theorem z_blocks {D : DT} (h : D 188 1 = 0) : m_X12_blocks D = some 0 := by
  unfold m_X12_blocks; rw [ard_v (i := 1) 1 rfl (by decide), h]; rfl
theorem z_arcs {D : DT} (h : D 188 2 = 0) : m_X12_arcs D = some 0 := by
  unfold m_X12_arcs; rw [ard_v (i := 2) 2 rfl (by decide), h]; rfl
theorem z_laysFlows {D : DT} (h : E8 D) : m_X12_laysFlows D = some D := by
  have f := z_funs h.1; have b := z_blocks h.2.1; have a := z_arcs h.2.2.1
  unfold m_X12_laysFlows
  rw [loop_x (r := D) (by simp [b_X12_laysFlows_2, a]), Option.bind_some, loop_x (r := D) (by simp [b_X12_laysFlows_25, f]), Option.bind_some]
  have e1 : loop b_X12_laysFlows_54 (0, 0, D) = some (0, D) := loop_x (by simp [b_X12_laysFlows_54, b])
  have e2 : loop b_X12_laysFlows_46 (1, D) = some D := by
    rw [loop_eq]
    have : b_X12_laysFlows_46 (1, D) = some (.inl (0, D)) := by simp [b_X12_laysFlows_46, e1]
    rw [this, Option.bind_some]
    exact loop_x (by simp [b_X12_laysFlows_46])
  rw [e2, Option.bind_some, loop_x (r := D) (by simp [b_X12_laysFlows_131, b]), Option.bind_some, loop_x (r := D) (by simp [b_X12_laysFlows_154, a]), Option.bind_some]
theorem z_laysSource {D : DT} (h : E8 D) : m_X12_laysSource D = some D := by
  have f := z_funs h.1
  unfold m_X12_laysSource
  rw [loop_x (r := D) (by simp [b_X12_laysSource_4, f]), Option.bind_some]
theorem z_laysOrder {D : DT} (h : E8 D) {p : Int} {r : Nat} : m_X12_laysOrder p r D = some D := by
  have f := z_funs h.1
  unfold m_X12_laysOrder
  rw [loop_x (r := (w32 (40 * p), D)) (by simp [b_X12_laysOrder_8, f]), Option.bind_some]
  dsimp only
  rw [loop_x (r := D) (by simp [b_X12_laysOrder_37, f]), Option.bind_some]
theorem z_laysChained {D : DT} (h : E8 D) : m_X12_laysChained D = some D := by
  have f := z_funs h.1; have b := z_blocks h.2.1; have a := z_arcs h.2.2.1
  unfold m_X12_laysChained
  rw [z_laysFlows h, Option.bind_some, loop_x (r := D) (by simp [b_X12_laysChained_6, a]), Option.bind_some, loop_x (r := D) (by simp [b_X12_laysChained_31, f]), Option.bind_some]
  have e : m_X12_laysCold D = some D := by
    unfold m_X12_laysCold
    rw [loop_x (r := D) (by simp [b_X12_laysCold_2, b]), Option.bind_some, loop_x (r := D) (by simp [b_X12_laysCold_25, b]), Option.bind_some]
  rw [e, Option.bind_some, z_laysSource h, Option.bind_some, z_laysOrder h, Option.bind_some]
theorem z_laysClusters {D : DT} (h : E8 D) : m_X12_laysClusters D = some (dput D 187 23 0) := by
  have f := z_funs h.1
  have h2 : E8 (dput D 187 23 0) := h.cg (dput_nb _ (by decide))
  have f2 := z_funs h2.1
  unfold m_X12_laysClusters
  have e1 : m_X12_hottest D = some (-1) := by
    unfold m_X12_hottest
    rw [loop_x (r := -1) (by simp [b_X12_hottest_4, f]), Option.bind_some]
  have e2 : m_X12_nextCluster (dput D 187 23 0) = some (-1) := by
    unfold m_X12_nextCluster
    rw [loop_x (r := -1) (by simp [b_X12_nextCluster_4, f2]), Option.bind_some]
  rw [loop_x (r := D) (by simp [b_X12_laysClusters_2, f]), Option.bind_some, e1, Option.bind_some, loop_x (r := D) (by simp [b_X12_laysClusters_53]), Option.bind_some, loop_x (r := D) (by simp [b_X12_laysClusters_136, f]), Option.bind_some, e2, Option.bind_some, loop_x (r := dput D 187 23 0) (by simp [b_X12_laysClusters_169]), Option.bind_some]
theorem z_laysAll {D : DT} (h : E8 D) : m_X12_laysAll D = some (dput D 187 23 0) := by
  have h2 : E8 (dput D 187 23 0) := h.cg (dput_nb _ (by decide))
  have f2 := z_funs h2.1; have b2 := z_blocks h2.2.1
  have t2 : ard (dput D 187 23 0) 188 4864 6 = some 0 := by rw [ard_v (i := 6) 6 rfl (by decide), h2.2.2.2.2.2.2]
  unfold m_X12_laysAll
  rw [z_laysChained h, Option.bind_some, z_laysClusters h, Option.bind_some]
  have e : m_X12_laysStart (dput D 187 23 0) = some (dput D 187 23 0) := by
    unfold m_X12_laysStart
    rw [loop_x (r := ((0 : Int), dput D 187 23 0)) (by simp [b_X12_laysStart_4, t2]), Option.bind_some]
    dsimp only
    rw [loop_x (r := dput D 187 23 0) (by simp [b_X12_laysStart_42, f2]), Option.bind_some]
  rw [e, Option.bind_some, z_laysOrder h2, Option.bind_some, z_laysOrder h2, Option.bind_some, loop_x (r := dput D 187 23 0) (by simp [b_X12_laysAll_32, b2]), Option.bind_some]
theorem z_asks {D : DT} (h : E8 D) {p q : Int} (hpq : p ≠ 0) (hq : q ≠ 0) : m_X12_asks p q D = some (1, dput (dput (dput D 187 3 0) 187 2 0) 187 23 0) := by
  unfold m_X12_asks
  rw [if_neg hpq, if_neg hq, Option.bind_some, dput_ss, if_neg (by decide), z_laysAll (h.cg (by rw [dput_nb _ (by decide), dput_nb _ (by decide)])), Option.bind_some]
theorem z_asks1 {D : DT} {q : Int} : m_X12_asks 0 q D = some (0, dput (dput D 187 3 0) 187 2 1) := by
  unfold m_X12_asks
  rw [if_pos rfl, Option.bind_some, dput_ss, if_pos (by decide)]
theorem z_asks2 {D : DT} {p : Int} (hp : p ≠ 0) : m_X12_asks p 0 D = some (0, dput (dput D 187 3 0) 187 2 2) := by
  unfold m_X12_asks
  rw [if_neg hp, if_pos rfl, Option.bind_some, dput_ss, if_pos (by decide)]
theorem z_isIn {D : DT} {v lo hi : Int} : m_X12_isIn v lo hi D = some (if v < lo then 0 else if hi < v then 0 else 1) := by
  unfold m_X12_isIn; split
  · rfl
  · split <;> rfl
theorem z_w : w32 (0 - 1) = -1 := by rw [w32_id (by omega) (by omega)]; omega
theorem z_none {D : DT} {v : Int} : m_X12_isIn v 0 (w32 (0 - 1)) D = some 0 := by
  rw [z_isIn, z_w]; split
  · rfl
  · rw [if_pos (by omega)]
theorem z_isFun {D : DT} (h : E8 D) {v : Int} : m_X12_isFun v D = some 0 := by
  unfold m_X12_isFun; rw [z_funs h.1, Option.bind_some, z_none, Option.bind_some]; rfl
theorem z_isBlock {D : DT} (h : E8 D) {v : Int} : m_X12_isBlock v D = some 0 := by
  unfold m_X12_isBlock; rw [z_blocks h.2.1, Option.bind_some, z_none, Option.bind_some]; rfl
theorem z_isArc {D : DT} (h : E8 D) {v : Int} : m_X12_isArc v D = some 0 := by
  unfold m_X12_isArc; rw [z_arcs h.2.2.1, Option.bind_some, z_none, Option.bind_some]; rfl
theorem z_isPlace {D : DT} (h : E8 D) {v : Int} : m_X12_isPlace v D = some 0 := by
  unfold m_X12_isPlace; rw [z_blocks h.2.1, Option.bind_some, z_none, Option.bind_some]; rfl
/-- what is asked of nothing is refused -/
theorem z_no {D : DT} {p : Int} {Q : Int × DT → Prop} (h : ∀ D', Q (0, D')) : wp (m_X12_asks p 0 D) Q := by
  by_cases hp : p = 0
  · subst hp; exact wp_of z_asks1 (h _)
  · exact wp_of (z_asks2 hp) (h _)
