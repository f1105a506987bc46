/-! ===== the reference's answers on an empty program ===== -/
theorem za_status {D : DT} (h : D 187 2 = 0) : wp (m_X12_status D) (fun u => u.1 = 0) := by
  unfold m_X12_status
  rw [wp_some]
  show dput D 187 3 0 187 2 = 0
  rw [dput_sn _ (by decide), h]
theorem za_fault {D : DT} (h1 : D 187 35 = -1) (h2 : D 187 36 = -1) {p : Int} : wp (m_X12_fault p D) (fun u => u.1 = -1) := by
  unfold m_X12_fault
  split
  · rw [wp_some]; show dput D 187 3 0 187 35 = -1; rw [dput_sn _ (by decide), h1]
  · split
    · rw [wp_some]; show dput D 187 3 0 187 36 = -1; rw [dput_sn _ (by decide), h2]
    · rw [wp_some]
theorem za_function {D : DT} (h : E8 D) {p q : Int} : wp (m_X12_function p q D) (fun u => u.1 = -1) := by
  unfold m_X12_function
  rw [z_isIn, Option.bind_some, z_isFun h, Option.bind_some, wp_bind]
  exact z_no (fun D' => by dsimp only; rw [if_pos rfl, wp_some])
theorem za_block {D : DT} (h : E8 D) {p q : Int} : wp (m_X12_block p q D) (fun u => u.1 = -1) := by
  unfold m_X12_block
  rw [z_isIn, Option.bind_some, z_isBlock h, Option.bind_some, wp_bind]
  exact z_no (fun D' => by dsimp only; rw [if_pos rfl, wp_some])
theorem za_arc {D : DT} (h : E8 D) {p q : Int} : wp (m_X12_arc p q D) (fun u => u.1 = -1) := by
  unfold m_X12_arc
  rw [z_isIn, Option.bind_some, z_isArc h, Option.bind_some, wp_bind]
  exact z_no (fun D' => by dsimp only; rw [if_pos rfl, wp_some])
theorem za_weight {D : DT} (h : E8 D) {p q : Int} : wp (m_X12_weight p q D) (fun u => u.1 = -1) := by
  unfold m_X12_weight
  rw [z_isFun h, Option.bind_some, if_pos rfl, Option.bind_some, wp_bind]
  exact z_no (fun D' => by dsimp only; rw [if_pos rfl, wp_some])
theorem z_isHow {D : DT} {p : Int} : m_X12_isHow p D = some (if p < 0 then 0 else if 4 < p then 0 else 1) := by
  unfold m_X12_isHow
  rw [z_isIn, Option.bind_some]
  split
  · rfl
  · split <;> rfl
theorem E8.ask {D : DT} (h : E8 D) : E8 (dput (dput (dput D 187 3 0) 187 2 0) 187 23 0) := h.cg (by rw [dput_nb _ (by decide), dput_nb _ (by decide), dput_nb _ (by decide)])
/-- asked of all there is: laid, or refused -/
theorem z_all {D : DT} (h : E8 D) {p : Int} {Q : Int × DT → Prop} (h0 : ∀ D', Q (0, D')) (h1 : Q (1, dput (dput (dput D 187 3 0) 187 2 0) 187 23 0)) : wp (m_X12_asks p 1 D) Q := by
  by_cases hp : p = 0
  · subst hp; exact wp_of z_asks1 (h0 _)
  · exact wp_of (z_asks h hp (by decide)) h1
theorem b01 {c d : Prop} {i : Decidable c} {j : Decidable d} : (if c then (0 : Int) else if d then 0 else 1) = 0 ∨ (if c then (0 : Int) else if d then 0 else 1) = 1 := by
  split
  · exact Or.inl rfl
  · split
    · exact Or.inl rfl
    · exact Or.inr rfl
theorem za_order {D : DT} (h : E8 D) {p q : Int} : wp (m_X12_order p q D) (fun u => u.1 = -1) := by
  unfold m_X12_order
  rw [z_isHow, Option.bind_some]
  rcases b01 (c := p < 0) (d := 4 < p) with e | e
  · rw [e, if_pos rfl, Option.bind_some, z_asks1, Option.bind_some]
    dsimp only
    rw [if_pos rfl, wp_some]
  · rw [e, if_neg (by decide)]
    by_cases hq : q < 0
    · rw [if_pos hq, Option.bind_some, z_asks1, Option.bind_some]
      dsimp only
      rw [if_pos rfl, wp_some]
    · rw [if_neg hq, Option.bind_some, z_asks h (by decide) (by decide), Option.bind_some]
      dsimp only
      rw [if_neg (by decide), z_blocks h.ask.2.1, Option.bind_some, if_neg hq]
      unfold m_X12_refuse
      rw [Option.bind_some, wp_some]
theorem za_place {D : DT} (h : E8 D) {p q s : Int} : wp (m_X12_place p q s D) (fun u => u.1 = -1) := by
  unfold m_X12_place
  rw [z_isHow, Option.bind_some, z_isIn]
  have hgo : ∀ t : Int, wp ((m_X12_isBlock q D).bind fun x4 => (m_X12_asks t x4 D).bind fun (x5, D6) => if x5 = 0 then (some ((-1), D6)) else ((m_X12_brings p D6).bind fun D7 => if s = 0 then ((ard D7 212 40 q).bind fun x8 => some (x8, D7)) else (if s = 1 then ((ard D7 213 40 q).bind fun x9 => some (x9, D7)) else (if s = 2 then ((ard D7 214 40 q).bind fun x10 => some (x10, D7)) else (if s = 3 then ((m_X12_firstPage q D7).bind fun x11 => some (x11, D7)) else ((m_X12_lastPage q D7).bind fun x12 => some (x12, D7))))))) (fun u => u.1 = -1) := by
    intro t
    rw [z_isBlock h, Option.bind_some, wp_bind]
    exact z_no (fun D' => by dsimp only; rw [if_pos rfl, wp_some])
  rcases b01 (c := p < 0) (d := 4 < p) with e | e
  · rw [e, if_pos rfl, Option.bind_some]; exact hgo 0
  · rw [e, if_neg (by decide), Option.bind_some]
    rcases b01 (c := s < 0) (d := 4 < s) with e2 | e2
    · rw [e2, if_pos rfl, Option.bind_some]; exact hgo 0
    · rw [e2, if_neg (by decide), Option.bind_some]; exact hgo 1
theorem za_falls {D : DT} (h : E8 D) {p q : Int} : wp (m_X12_falls_ p q D) (fun u => u.1 = -1) := by
  unfold m_X12_falls_
  rw [z_isHow, Option.bind_some, z_isArc h, Option.bind_some, wp_bind]
  exact z_no (fun D' => by dsimp only; rw [if_pos rfl, wp_some])
theorem za_jumps {D : DT} (h : E8 D) {p q : Int} : wp (m_X12_jumps p q D) (fun u => u.1 = -1) := by
  unfold m_X12_jumps
  rw [z_isHow, Option.bind_some, z_isFun h, Option.bind_some, wp_bind]
  exact z_no (fun D' => by dsimp only; rw [if_pos rfl, wp_some])
theorem za_least {D : DT} (h : E8 D) {p : Int} : wp (m_X12_least p D) (fun u => u.1 = -1) := by
  unfold m_X12_least
  rw [z_isFun h, Option.bind_some, wp_bind]
  exact z_no (fun D' => by dsimp only; rw [if_pos rfl, wp_some])
theorem za_run {D : DT} (h : E8 D) {p q s t v : Int} : wp (m_X12_run p q s t v D) (fun u => u.1 = -1) := by
  unfold m_X12_run
  rw [z_isHow, Option.bind_some, z_isIn, z_isIn, z_isIn, wp_bind]
  refine wp_mono (Q := fun _ => True) ?_ ?_
  · rcases b01 (c := p < 0) (d := 4 < p) with e | e
    · rw [e, if_pos rfl, wp_some]; trivial
    · rw [e, if_neg (by decide), Option.bind_some]
      rcases b01 (c := s < 1) (d := 200 < s) with e | e
      · rw [e, if_pos rfl, wp_some]; trivial
      · rw [e, if_neg (by decide), Option.bind_some]
        rcases b01 (c := t < 0) (d := 9999 < t) with e | e
        · rw [e, if_pos rfl, wp_some]; trivial
        · rw [e, if_neg (by decide), Option.bind_some]
          rcases b01 (c := v < 0) (d := 3 < v) with e | e
          · rw [e, if_pos rfl, wp_some]; trivial
          · rw [e, if_neg (by decide), wp_some]; trivial
  · intro a _
    rw [z_isFun h, Option.bind_some, wp_bind]
    exact z_no (fun D' => by dsimp only; rw [if_pos rfl, wp_some])
theorem za_count {D : DT} (h : E8 D) {p q : Int} : wp (m_X12_count p q D) (fun u => u.1 = -1) := by
  have h3 : E8 (dput D 187 3 0) := h.cg (dput_nb _ (by decide))
  unfold m_X12_count
  rw [z_isIn, Option.bind_some]
  rcases b01 (c := q < 0) (d := 9999 < q) with e | e
  · rw [e, if_pos rfl, Option.bind_some, dput_ss, if_pos (by decide), wp_some]
  · rw [e, if_neg (by decide), z_isArc h3, Option.bind_some, if_pos rfl, Option.bind_some, dput_ss, if_pos (by decide), wp_some]
theorem za_take {D : DT} (h : E8 D) {p : Int} : wp (m_X12_take p D) (fun u => u.1 = -1) := by
  unfold m_X12_take
  rw [z_isIn, Option.bind_some, wp_bind]
  refine z_all h (fun D' => by dsimp only; rw [if_pos rfl, wp_some]) ?_
  dsimp only
  rw [if_neg (by decide), loop_x (r := 1) (by simp [b_X12_take_20, z_blocks h.ask.2.1]), Option.bind_some, if_neg (by decide)]
  unfold m_X12_refuse
  rw [Option.bind_some, wp_some]
theorem za_move {D : DT} (h : E8 D) {p q : Int} : wp (m_X12_move p q D) (fun u => u.1 = -1) := by
  unfold m_X12_move
  rw [z_isPlace h, Option.bind_some, z_isBlock h, Option.bind_some, wp_bind]
  exact z_no (fun D' => by dsimp only; rw [if_pos rfl, wp_some])
theorem za_moved {D : DT} (h : E8 D) {p q : Int} : wp (m_X12_moved p q D) (fun u => u.1 = -1) := by
  unfold m_X12_moved
  rw [z_isPlace h, Option.bind_some, z_isBlock h, Option.bind_some, wp_bind]
  exact z_no (fun D' => by dsimp only; rw [if_pos rfl, wp_some])
theorem za_undo {D : DT} (h : D 187 1 = 0) : wp (m_X12_undo D) (fun u => u.1 = -1) := by
  unfold m_X12_undo
  rw [dput_sn _ (by decide), dput_sn _ (by decide), if_pos h]
  unfold m_X12_refuse
  rw [Option.bind_some, wp_some]
theorem za_enough {D : DT} (h : E8 D) {p : Int} : wp (m_X12_enough p D) (fun u => u.1 = -1) := by
  have h3 : E8 (dput D 187 3 0) := h.cg (dput_nb _ (by decide))
  unfold m_X12_enough
  rw [z_isArc h3, Option.bind_some, if_pos rfl, Option.bind_some, dput_ss, if_pos (by decide), wp_some]
/-- rows that stand at once -/
theorem z_brings {D : DT} (h : E8 D) {p : Int} : m_X12_brings p D = some D := by
  have b := z_blocks h.2.1
  unfold m_X12_brings m_X12_stands
  rw [loop_x (r := D) (by simp [b_X12_brings_2, b]), Option.bind_some, loop_x (r := D) (by simp [b_X12_stands_2, b]), Option.bind_some, loop_x (r := D) (by simp [b_X12_stands_32, b]), Option.bind_some, Option.bind_some]
theorem z_jumpsBy {D : DT} (h : E8 D) {p : Int} : m_X12_jumpsBy p D = some 0 := by
  have a := z_arcs h.2.2.1
  unfold m_X12_jumpsBy
  rw [z_funs h.1, Option.bind_some, loop_x (r := 0) (by simp [b_X12_jumpsBy_7, a]), Option.bind_some]
theorem za_best {D : DT} (h : E8 D) {p : Int} : wp (m_X12_best p D) (fun u => u.1 = -1) := by
  unfold m_X12_best
  rw [z_isIn, Option.bind_some, wp_bind]
  refine z_all h (fun D' => by dsimp only; rw [if_pos rfl, wp_some]) ?_
  dsimp only
  rw [if_neg (by decide), z_brings h.ask, Option.bind_some, z_jumpsBy h.ask, Option.bind_some, loop_x (r := (0, -1, -1, _)) (by simp [b_X12_best_35, z_blocks h.ask.2.1]; rfl), Option.bind_some]
  dsimp only
  rw [if_pos (by decide)]
  unfold m_X12_refuse
  rw [Option.bind_some, wp_some]
theorem z_allBytes {D : DT} (h : E8 D) : m_X12_allBytes D = some 0 := by
  unfold m_X12_allBytes
  rw [loop_x (r := 0) (by simp [b_X12_allBytes_4, z_blocks h.2.1]), Option.bind_some]
theorem z_touched {D : DT} (h : E8 D) : wp (m_X12_touched D) (fun u => u.1 = 0) := by
  unfold m_X12_touched
  rw [wp_bind]
  refine wp_for 512 (fun j s => s.1 = (j : Int) ∧ Fr [223] D s.2) (Nat.zero_le _) ⟨rfl, Fr.rf⟩ ?_
  rintro j ⟨jj, D1⟩ hj ⟨g1, hF⟩
  simp only at g1 hF
  subst g1
  have h1 : E8 D1 := h.cg (hF 188 (by decide))
  unfold b_X12_touched_2
  dsimp only
  rw [wp_ite]
  constructor
  · intro q
    rw [abit_0, Option.bind_some, awr_n (by omega), Option.bind_some, wp_some, gd_l]
    exact ⟨by omega, w32_succ (by omega), hF.put (by simp)⟩
  · intro q
    rw [wp_some, gd_r, loop_x (r := ((0 : Int), D1)) (by simp [b_X12_touched_26, z_blocks h1.2.1]), Option.bind_some, wp_some]
theorem za_cost {D : DT} (h : E8 D) {p q : Int} : wp (m_X12_cost p q D) (fun u => u.1 = if (0 ≤ p ∧ p ≤ 4) ∧ 0 ≤ q ∧ q ≤ 5 then 0 else -1) := by
  have ha := h.ask
  unfold m_X12_cost
  rw [z_isHow, Option.bind_some, z_isIn]
  by_cases hp : 0 ≤ p ∧ p ≤ 4
  rotate_left
  · rw [show (if p < 0 then (0 : Int) else if 4 < p then 0 else 1) = 0 by split; rfl; rw [if_pos (by omega)], if_pos rfl, Option.bind_some, z_asks1, Option.bind_some]
    dsimp only
    rw [if_pos rfl, wp_some, if_neg (fun z => hp z.1)]
  rw [show (if p < 0 then (0 : Int) else if 4 < p then 0 else 1) = 1 by rw [if_neg (by omega), if_neg (by omega)], if_neg (by decide), Option.bind_some]
  by_cases hq : 0 ≤ q ∧ q ≤ 5
  rotate_left
  · rw [show (if q < 0 then (0 : Int) else if 5 < q then 0 else 1) = 0 by split; rfl; rw [if_pos (by omega)], if_pos rfl, Option.bind_some, z_asks1, Option.bind_some]
    dsimp only
    rw [if_pos rfl, wp_some, if_neg (fun z => hq z.2)]
  rw [show (if q < 0 then (0 : Int) else if 5 < q then 0 else 1) = 1 by rw [if_neg (by omega), if_neg (by omega)], if_neg (by decide), Option.bind_some, z_asks h (by decide) (by decide), Option.bind_some, if_pos ⟨hp, hq⟩]
  dsimp only
  rw [if_neg (by decide), z_brings ha, Option.bind_some]
  rw [wp_ite]; refine ⟨fun _ => ?_, fun _ => ?_⟩
  · rw [z_jumpsBy ha, Option.bind_some, wp_some]
  rw [wp_ite]; refine ⟨fun _ => ?_, fun _ => ?_⟩
  · rw [z_allBytes ha, Option.bind_some, wp_some]
  rw [wp_ite]; refine ⟨fun _ => ?_, fun _ => ?_⟩
  · rw [loop_x (r := 0) (by simp [b_X12_cost_86, z_blocks ha.2.1]), Option.bind_some, wp_some]
  rw [wp_ite]; refine ⟨fun _ => ?_, fun _ => ?_⟩
  · rw [z_allBytes ha, Option.bind_some, ard_v (i := 4) 4 rfl (by decide), ha.2.2.2.2.1, Option.bind_some, Option.bind_some]
    have : adiv (w32 ((w32 (0 + 64)) - 1)) 64 = some 0 := by
      rw [w32_id (x := 0 + 64) (by omega) (by omega), w32_id (by omega) (by omega)]; rfl
    rw [this, Option.bind_some, wp_some]
  rw [wp_ite]; refine ⟨fun _ => ?_, fun _ => ?_⟩
  · rw [wp_bind]
    refine wp_mono (z_touched ha) ?_
    rintro ⟨x, D'⟩ e
    dsimp only
    rw [wp_some]; exact e
  · rw [loop_x (r := 0) (by simp [b_X12_cost_163, z_arcs ha.2.2.1]), Option.bind_some, wp_some]
theorem za_many {D : DT} (h : E8 D) (h1 : D 187 1 = 0) {p : Int} : wp (m_X12_many p D) (fun u => u.1 = if p = 4 then 64 else if p = 5 then 4 else if 0 ≤ p ∧ p ≤ 10 then 0 else -1) := by
  have ha := h.ask
  unfold m_X12_many
  rw [z_isIn, Option.bind_some]
  by_cases hp : 0 ≤ p ∧ p ≤ 10
  rotate_left
  · rw [show (if p < 0 then (0 : Int) else if 10 < p then 0 else 1) = 0 by split; rfl; rw [if_pos (by omega)], z_asks1, Option.bind_some]
    dsimp only
    rw [if_pos rfl, wp_some, if_neg (by omega), if_neg (by omega), if_neg hp]
  rw [show (if p < 0 then (0 : Int) else if 10 < p then 0 else 1) = 1 by rw [if_neg (by omega), if_neg (by omega)], z_asks h (by decide) (by decide), Option.bind_some]
  dsimp only
  rw [if_neg (by decide)]
  rw [wp_ite]; refine ⟨fun e => ?_, fun e7 => ?_⟩
  · have : m_X12_broken (dput (dput (dput D 187 3 0) 187 2 0) 187 23 0) = some 0 := by
      unfold m_X12_broken
      rw [loop_x (r := 0) (by simp [b_X12_broken_4, z_arcs ha.2.2.1]), Option.bind_some]
    rw [this, Option.bind_some, wp_some, if_neg (by omega), if_neg (by omega), if_pos hp]
  rw [wp_ite]; refine ⟨fun e => ?_, fun e8 => ?_⟩
  · have : m_X12_mending (dput (dput (dput D 187 3 0) 187 2 0) 187 23 0) = some 0 := by
      unfold m_X12_mending
      rw [loop_x (r := 0) (by simp [b_X12_mending_4, z_arcs ha.2.2.1]), Option.bind_some]
    rw [this, Option.bind_some, wp_some, if_neg (by omega), if_neg (by omega), if_pos hp]
  rw [wp_ite]; refine ⟨fun e => ?_, fun e9 => ?_⟩
  · rw [wp_some, if_neg (by omega), if_neg (by omega), if_pos hp]
    dsimp only
    rw [dput_ss]
  rw [wp_ite]; refine ⟨fun e => ?_, fun e10 => ?_⟩
  · rw [wp_some, if_neg (by omega), if_neg (by omega), if_pos hp]
    show dput (dput (dput D 187 3 0) 187 2 0) 187 23 0 187 1 = 0
    rw [dput_sn _ (by decide), dput_sn _ (by decide), dput_sn _ (by decide), h1]
  have hc : p = 0 ∨ p = 1 ∨ p = 2 ∨ p = 3 ∨ p = 4 ∨ p = 5 ∨ p = 6 := by omega
  obtain ⟨a0, a1, a2, a3, a4, a5, a6⟩ := ha
  rcases hc with rfl | rfl | rfl | rfl | rfl | rfl | rfl
  · rw [ard_v (i := 0) 0 rfl (by decide), Option.bind_some, wp_some]; exact a0
  · rw [ard_v (i := 1) 1 rfl (by decide), Option.bind_some, wp_some]; exact a1
  · rw [ard_v (i := 2) 2 rfl (by decide), Option.bind_some, wp_some]; exact a2
  · rw [ard_v (i := 3) 3 rfl (by decide), Option.bind_some, wp_some]; exact a3
  · rw [ard_v (i := 4) 4 rfl (by decide), Option.bind_some, wp_some]; exact a4
  · rw [ard_v (i := 5) 5 rfl (by decide), Option.bind_some, wp_some]; exact a5
  · rw [ard_v (i := 6) 6 rfl (by decide), Option.bind_some, wp_some]; exact a6
