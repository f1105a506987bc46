/-! ===== the class's answers on an empty program ===== -/
def E4 (D : DT) : Prop := D 4 0 = 0 ∧ D 4 1 = 0 ∧ D 4 2 = 0 ∧ D 4 3 = 0 ∧ D 4 4 = 64 ∧ D 4 5 = 4 ∧ D 4 6 = 0
/-- the script and the reference are as they were -/
def FdD (D D' : DT) : Prop := ∀ c, c = 0 ∨ 187 ≤ c → D' c = D c
theorem FdD.rf {D : DT} : FdD D D := fun _ _ => rfl
theorem FdD.put {D E : DT} (h : FdD D E) {a i : Nat} {v : Int} (ha : a ≠ 0 ∧ a < 187) : FdD D (dput E a i v) := fun c hc => by
  rw [dput_nb _ (by omega)]; exact h c hc
theorem FdD.of {D E : DT} {S : List Nat} (h : Fr S D E) (hs : S.all (fun c => decide (c ≠ 0 ∧ c < 187)) = true) : FdD D E := fun c hc => h c (fun q => by
  have := of_decide_eq_true (List.all_eq_true.mp hs c q)
  omega)
theorem FdD.tr {D E F : DT} (h : FdD D E) (h2 : FdD E F) : FdD D F := fun c hc => (h2 c hc).trans (h c hc)
theorem E4.fr {D E : DT} {S : List Nat} (h : E4 D) (hF : Fr S D E) (hs : (4 : Nat) ∉ S) : E4 E := by unfold E4; rw [hF 4 hs]; exact h
def Ans (D : DT) (a : Int) (t : Int × DT) : Prop := t.1 = a ∧ FdD D t.2
theorem zd_refuse {D : DT} {w : Int} : wp ((m_X11_refuse w D).bind fun (x, D') => some (x, D')) (Ans D (-1)) := by
  unfold m_X11_refuse
  rw [Option.bind_some, wp_some]
  exact ⟨rfl, FdD.rf.put (by decide)⟩
theorem zd_answer {D E : DT} {v : Int} (h : FdD D E) : wp ((m_X11_answer v E).bind fun (x, D') => some (x, D')) (Ans D v) := by
  unfold m_X11_answer
  rw [Option.bind_some, wp_some]
  exact ⟨rfl, h.put (by decide)⟩
theorem zd_refuseE {D E : DT} {w : Int} (h : FdD D E) : wp ((m_X11_refuse w E).bind fun (x, D') => some (x, D')) (Ans D (-1)) := by
  unfold m_X11_refuse
  rw [Option.bind_some, wp_some]
  exact ⟨rfl, h.put (by decide)⟩
theorem zd_isFunction {D : DT} (h : E4 D) {p : Int} : m_X11_isFunction p D = some 0 := by
  unfold m_X11_isFunction; rw [h.1]; split <;> rfl
theorem zd_isBlock {D : DT} (h : E4 D) {p : Int} : m_X11_isBlock p D = some 0 := by
  unfold m_X11_isBlock; rw [h.2.1]; split <;> rfl
theorem zd_isPlace {D : DT} (h : E4 D) {p : Int} : m_X11_isPlace p D = some 0 := by
  unfold m_X11_isPlace; rw [h.2.1]; split <;> rfl
theorem zd_isArc {D : DT} (h : E4 D) {p : Int} : m_X11_isArc p D = some 0 := by
  unfold m_X11_isArc; rw [h.2.2.1]; split <;> rfl
theorem zd_isOrder {D : DT} {p : Int} : m_X11_isOrder p D = some (if p < 0 then 0 else if 4 < p then 0 else 1) := by
  unfold m_X11_isOrder
  by_cases h : p < 0
  · rw [if_pos h, if_pos h]
  · rw [if_neg h, if_neg h]
    by_cases h2 : 4 < p
    · rw [if_pos h2, if_neg (by omega)]
    · rw [if_neg h2, if_pos (by omega)]
theorem zd_fault {D : DT} (h1 : D 2 3 = -1) (h2 : D 2 4 = -1) {p : Int} : m_X11_fault p D = some (-1) := by
  unfold m_X11_fault; rw [h1, h2]; split
  · rfl
  · split <;> rfl
theorem zd_function {D : DT} (h : E4 D) {p q : Int} : wp (m_X11_function p q D) (Ans D (-1)) := by
  unfold m_X11_function
  rw [wp_ite]; refine ⟨fun _ => zd_refuse, fun _ => ?_⟩
  rw [wp_ite]; refine ⟨fun _ => zd_refuse, fun _ => ?_⟩
  rw [zd_isFunction h, Option.bind_some, if_pos rfl]; exact zd_refuse
theorem zd_block {D : DT} (h : E4 D) {p q : Int} : wp (m_X11_block p q D) (Ans D (-1)) := by
  unfold m_X11_block
  rw [wp_ite]; refine ⟨fun _ => zd_refuse, fun _ => ?_⟩
  rw [wp_ite]; refine ⟨fun _ => zd_refuse, fun _ => ?_⟩
  rw [zd_isBlock h, Option.bind_some, if_pos rfl]; exact zd_refuse
theorem zd_arc {D : DT} (h : E4 D) {p q : Int} : wp (m_X11_arc p q D) (Ans D (-1)) := by
  unfold m_X11_arc
  rw [wp_ite]; refine ⟨fun _ => zd_refuse, fun _ => ?_⟩
  rw [wp_ite]; refine ⟨fun _ => zd_refuse, fun _ => ?_⟩
  rw [zd_isArc h, Option.bind_some, if_pos rfl]; exact zd_refuse
theorem zd_weight {D : DT} (h : E4 D) {p q : Int} : wp (m_X11_weight p q D) (Ans D (-1)) := by
  unfold m_X11_weight
  rw [zd_isFunction h, Option.bind_some, if_pos rfl]; exact zd_refuse
theorem zd_order {D : DT} (h : E4 D) {p q : Int} : wp (m_X11_order p q D) (Ans D (-1)) := by
  unfold m_X11_order
  rw [zd_isOrder, Option.bind_some, wp_ite]; refine ⟨fun _ => zd_refuse, fun _ => ?_⟩
  rw [wp_ite]; refine ⟨fun _ => zd_refuse, fun hq => ?_⟩
  rw [h.2.1, if_neg hq]; exact zd_refuse
theorem zd_place {D : DT} (h : E4 D) {p q s : Int} : wp (m_X11_place p q s D) (Ans D (-1)) := by
  unfold m_X11_place
  rw [zd_isOrder, Option.bind_some, wp_ite]; refine ⟨fun _ => zd_refuse, fun _ => ?_⟩
  rw [wp_ite]; refine ⟨fun _ => zd_refuse, fun _ => ?_⟩
  rw [wp_ite]; refine ⟨fun _ => zd_refuse, fun _ => ?_⟩
  rw [zd_isBlock h, Option.bind_some, if_pos rfl]; exact zd_refuse
theorem zd_falls {D : DT} (h : E4 D) {p q : Int} : wp (m_X11_falls p q D) (Ans D (-1)) := by
  unfold m_X11_falls
  rw [zd_isOrder, Option.bind_some, wp_ite]; refine ⟨fun _ => zd_refuse, fun _ => ?_⟩
  rw [zd_isArc h, Option.bind_some, if_pos rfl]; exact zd_refuse
theorem zd_jumps {D : DT} (h : E4 D) {p q : Int} : wp (m_X11_jumps p q D) (Ans D (-1)) := by
  unfold m_X11_jumps
  rw [zd_isOrder, Option.bind_some, wp_ite]; refine ⟨fun _ => zd_refuse, fun _ => ?_⟩
  rw [zd_isFunction h, Option.bind_some, if_pos rfl]; exact zd_refuse
theorem zd_least {D : DT} (h : E4 D) {p : Int} : wp (m_X11_least p D) (Ans D (-1)) := by
  unfold m_X11_least
  rw [zd_isFunction h, Option.bind_some, if_pos rfl]; exact zd_refuse
theorem zd_run {D : DT} (h : E4 D) {p q s t v : Int} : wp (m_X11_run p q s t v D) (Ans D (-1)) := by
  unfold m_X11_run
  rw [wp_bind]
  refine wp_mono (Q := fun _ => True) ?_ (fun x _ => ?_)
  · rw [wp_ite]; refine ⟨fun _ => wp_some.mpr trivial, fun _ => ?_⟩
    rw [wp_ite]; refine ⟨fun _ => wp_some.mpr trivial, fun _ => ?_⟩
    rw [wp_ite]; refine ⟨fun _ => wp_some.mpr trivial, fun _ => ?_⟩
    rw [wp_ite]; exact ⟨fun _ => wp_some.mpr trivial, fun _ => wp_some.mpr trivial⟩
  rw [zd_isOrder, Option.bind_some, wp_ite]; refine ⟨fun _ => zd_refuse, fun _ => ?_⟩
  rw [wp_ite]; refine ⟨fun _ => zd_refuse, fun _ => ?_⟩
  rw [wp_ite]; refine ⟨fun _ => zd_refuse, fun _ => ?_⟩
  rw [wp_ite]; refine ⟨fun _ => zd_refuse, fun _ => ?_⟩
  rw [zd_isFunction h, Option.bind_some, if_pos rfl]; exact zd_refuse
theorem zd_count {D : DT} (h : E4 D) {p q : Int} : wp (m_X11_count p q D) (Ans D (-1)) := by
  unfold m_X11_count
  rw [wp_ite]; refine ⟨fun _ => zd_refuse, fun _ => ?_⟩
  rw [wp_ite]; refine ⟨fun _ => zd_refuse, fun _ => ?_⟩
  rw [zd_isArc h, Option.bind_some, if_pos rfl]; exact zd_refuse
theorem zd_isLine {D : DT} (h : E4 D) {r : Nat} : m_X4_isLine r D = some 1 := by
  unfold m_X4_isLine
  rw [loop_x (r := Sum.inr ()) (by simp [b_X4_isLine_2, h.2.1]), Option.bind_some]
theorem zd_take {D : DT} (h : E4 D) {p : Int} : wp (m_X11_take p D) (Ans D (-1)) := by
  unfold m_X11_take
  rw [zd_isOrder, Option.bind_some, wp_ite]; refine ⟨fun _ => zd_refuse, fun ho => ?_⟩
  rw [wp_ite]; refine ⟨fun _ => zd_refuse, fun h4 => ?_⟩
  have hp : p = 0 ∨ p = 1 ∨ p = 2 ∨ p = 3 := by
    split at ho
    · exact absurd rfl ho
    · split at ho
      · exact absurd rfl ho
      · omega
  rcases hp with rfl | rfl | rfl | rfl
  · rw [if_pos rfl, zd_isLine h, Option.bind_some, if_neg (by decide)]; exact zd_refuse
  · rw [if_neg (by decide), if_pos rfl, zd_isLine h, Option.bind_some, if_neg (by decide)]; exact zd_refuse
  · rw [if_neg (by decide), if_neg (by decide), if_pos rfl, zd_isLine h, Option.bind_some, if_neg (by decide)]; exact zd_refuse
  · rw [if_neg (by decide), if_neg (by decide), if_neg (by decide), if_pos rfl, zd_isLine h, Option.bind_some, if_neg (by decide)]; exact zd_refuse
theorem zd_move {D : DT} (h : E4 D) {p q : Int} : wp (m_X11_move p q D) (Ans D (-1)) := by
  unfold m_X11_move
  rw [zd_isPlace h, Option.bind_some, if_pos rfl]; exact zd_refuse
theorem zd_moved {D : DT} (h : E4 D) {p q : Int} : wp (m_X11_moved p q D) (Ans D (-1)) := by
  unfold m_X11_moved
  rw [zd_isPlace h, Option.bind_some, if_pos rfl]; exact zd_refuse
theorem zd_undo {D : DT} (h : D 36 0 = 0) : wp (m_X11_undo D) (Ans D (-1)) := by
  unfold m_X11_undo
  rw [h, if_pos rfl]; exact zd_refuse
theorem zd_enough {D : DT} (h : E4 D) {p : Int} : wp (m_X11_enough p D) (Ans D (-1)) := by
  unfold m_X11_enough
  rw [zd_isArc h, Option.bind_some, if_pos rfl]; exact zd_refuse
theorem zd_allJumps {D : DT} (h : E4 D) {r : Nat} : m_X4_allJumps r D = some 0 := by
  unfold m_X4_allJumps
  rw [loop_x (r := 0) (by simp [b_X4_allJumps_4, h.2.2.1]), Option.bind_some]
theorem zd_best {D : DT} (h : E4 D) {p : Int} : wp (m_X11_best p D) (Ans D (-1)) := by
  unfold m_X11_best
  rw [wp_ite]; refine ⟨fun _ => zd_refuse, fun _ => ?_⟩
  rw [wp_ite]; refine ⟨fun _ => zd_refuse, fun _ => ?_⟩
  rw [zd_allJumps h, Option.bind_some]
  have e : m_X6_seekBest 0 D = some (dput (dput (dput D 159 0 (-1)) 159 1 (-1)) 159 2 0) := by
    unfold m_X6_seekBest
    rw [loop_x (r := dput (dput (dput D 159 0 (-1)) 159 1 (-1)) 159 2 0) (by simp [b_X6_seekBest_17, dput_eq, h.2.1]), Option.bind_some]
  rw [e, Option.bind_some, if_pos (by simp [dput_eq])]
  exact zd_refuseE (((FdD.rf.put (by decide)).put (by decide)).put (by decide))
theorem zd_many {D : DT} (h : E4 D) (h141 : D 141 4 = 0) (h36 : D 36 0 = 0) {p : Int} : wp (m_X11_many p D) (Ans D (if p = 4 then 64 else if p = 5 then 4 else if 0 ≤ p ∧ p ≤ 10 then 0 else -1)) := by
  obtain ⟨a0, a1, a2, a3, a4, a5, a6⟩ := id h
  have e7 : m_X2_broken D = some 0 := by
    unfold m_X2_broken
    rw [loop_x (r := 0) (by simp [b_X2_broken_4, a2]), Option.bind_some]
  have e8 : m_X2_mending D = some 0 := by
    unfold m_X2_mending
    rw [loop_x (r := 0) (by simp [b_X2_mending_4, a2]), Option.bind_some]
  unfold m_X11_many
  rw [wp_ite]; refine ⟨fun e => ?_, fun n0 => ?_⟩
  · subst e
    rw [show (if (0 : Int) = 4 then (64 : Int) else if (0 : Int) = 5 then 4 else if 0 ≤ (0 : Int) ∧ (0 : Int) ≤ 10 then 0 else -1) = 0 by decide, a0]
    exact zd_answer FdD.rf
  rw [wp_ite]; refine ⟨fun e => ?_, fun n1 => ?_⟩
  · subst e
    rw [show (if (1 : Int) = 4 then (64 : Int) else if (1 : Int) = 5 then 4 else if 0 ≤ (1 : Int) ∧ (1 : Int) ≤ 10 then 0 else -1) = 0 by decide, a1]
    exact zd_answer FdD.rf
  rw [wp_ite]; refine ⟨fun e => ?_, fun n2 => ?_⟩
  · subst e
    rw [show (if (2 : Int) = 4 then (64 : Int) else if (2 : Int) = 5 then 4 else if 0 ≤ (2 : Int) ∧ (2 : Int) ≤ 10 then 0 else -1) = 0 by decide, a2]
    exact zd_answer FdD.rf
  rw [wp_ite]; refine ⟨fun e => ?_, fun n3 => ?_⟩
  · subst e
    rw [show (if (3 : Int) = 4 then (64 : Int) else if (3 : Int) = 5 then 4 else if 0 ≤ (3 : Int) ∧ (3 : Int) ≤ 10 then 0 else -1) = 0 by decide, a3]
    exact zd_answer FdD.rf
  rw [wp_ite]; refine ⟨fun e => ?_, fun n4 => ?_⟩
  · subst e
    rw [show (if (4 : Int) = 4 then (64 : Int) else if (4 : Int) = 5 then 4 else if 0 ≤ (4 : Int) ∧ (4 : Int) ≤ 10 then 0 else -1) = 64 by decide, a4]
    exact zd_answer FdD.rf
  rw [wp_ite]; refine ⟨fun e => ?_, fun n5 => ?_⟩
  · subst e
    rw [show (if (5 : Int) = 4 then (64 : Int) else if (5 : Int) = 5 then 4 else if 0 ≤ (5 : Int) ∧ (5 : Int) ≤ 10 then 0 else -1) = 4 by decide, a5]
    exact zd_answer FdD.rf
  rw [wp_ite]; refine ⟨fun e => ?_, fun n6 => ?_⟩
  · subst e
    rw [show (if (6 : Int) = 4 then (64 : Int) else if (6 : Int) = 5 then 4 else if 0 ≤ (6 : Int) ∧ (6 : Int) ≤ 10 then 0 else -1) = 0 by decide, a6]
    exact zd_answer FdD.rf
  rw [wp_ite]; refine ⟨fun e => ?_, fun n7 => ?_⟩
  · subst e
    rw [show (if (7 : Int) = 4 then (64 : Int) else if (7 : Int) = 5 then 4 else if 0 ≤ (7 : Int) ∧ (7 : Int) ≤ 10 then 0 else -1) = 0 by decide, e7, Option.bind_some]
    exact zd_answer FdD.rf
  rw [wp_ite]; refine ⟨fun e => ?_, fun n8 => ?_⟩
  · subst e
    rw [show (if (8 : Int) = 4 then (64 : Int) else if (8 : Int) = 5 then 4 else if 0 ≤ (8 : Int) ∧ (8 : Int) ≤ 10 then 0 else -1) = 0 by decide, e8, Option.bind_some]
    exact zd_answer FdD.rf
  rw [wp_ite]; refine ⟨fun e => ?_, fun n9 => ?_⟩
  · subst e
    rw [show (if (9 : Int) = 4 then (64 : Int) else if (9 : Int) = 5 then 4 else if 0 ≤ (9 : Int) ∧ (9 : Int) ≤ 10 then 0 else -1) = 0 by decide, h141]
    exact zd_answer FdD.rf
  rw [wp_ite]; refine ⟨fun e => ?_, fun n10 => ?_⟩
  · subst e
    rw [show (if (10 : Int) = 4 then (64 : Int) else if (10 : Int) = 5 then 4 else if 0 ≤ (10 : Int) ∧ (10 : Int) ≤ 10 then 0 else -1) = 0 by decide, h36]
    exact zd_answer FdD.rf
  rw [if_neg (by omega), if_neg (by omega), if_neg (by omega)]
  exact zd_refuse
theorem zd_turned {D : DT} (h : E4 D) {r : Nat} : m_X4_turned r D = some 0 := by
  unfold m_X4_turned
  rw [loop_x (r := 0) (by simp [b_X4_turned_4, h.2.1]), Option.bind_some]
theorem zd_fallCount {D : DT} (h : E4 D) {r : Nat} : m_X4_fallCount r D = some 0 := by
  unfold m_X4_fallCount
  rw [loop_x (r := 0) (by simp [b_X4_fallCount_4, h.2.2.1]), Option.bind_some]
theorem zd_touched {D : DT} (h : E4 D) {r : Nat} : wp (m_X4_touched r D) (fun t => t.1 = 0 ∧ FdD D t.2) := by
  unfold m_X4_touched m_X5_clear
  rw [wp_bind, wp_bind]
  refine wp_for 256 (fun j s => s.1 = (j : Int) ∧ Fr [153, 154] D s.2 ∧ s.2 153 0 = 0) (Nat.zero_le _) ⟨rfl, Fr.rf.put (by simp), by dsimp only; rw [dput_ss]⟩ ?_
  rintro j ⟨jj, D1⟩ hj ⟨g1, hF, g2⟩
  simp only at g1 hF g2
  subst g1
  have h1 : E4 D1 := h.fr hF (by decide)
  unfold b_X5_clear_7
  dsimp only
  rw [wp_ite]
  constructor
  · intro q
    rw [abit_0, Option.bind_some, awr_n (by omega), Option.bind_some, wp_some, gd_l]
    exact ⟨by omega, w32_succ (by omega), hF.put (by simp), by dsimp only; rw [dput_nb _ (by decide)]; exact g2⟩
  · intro q
    rw [wp_some, gd_r, wp_some, loop_x (r := D1) (by simp [b_X4_touched_6, h1.2.1]), Option.bind_some, wp_some]
    exact ⟨g2, FdD.of hF (by decide)⟩
theorem zd_cost {D : DT} (h : E4 D) (ht : D 162 4 = 0 ∧ D 167 4 = 0 ∧ D 172 4 = 0 ∧ D 177 4 = 0 ∧ D 182 4 = 0) {p q : Int} : wp (m_X11_cost p q D) (Ans D (if (0 ≤ p ∧ p ≤ 4) ∧ 0 ≤ q ∧ q ≤ 5 then 0 else -1)) := by
  obtain ⟨t0, t1, t2, t3, t4⟩ := ht
  unfold m_X11_cost
  rw [zd_isOrder, Option.bind_some]
  by_cases hp : 0 ≤ p ∧ p ≤ 4
  rotate_left
  · rw [show (if p < 0 then (0 : Int) else if 4 < p then 0 else 1) = 0 by split; rfl; rw [if_pos (by omega)], if_pos rfl, if_neg (fun z => hp z.1)]
    exact zd_refuse
  rw [show (if p < 0 then (0 : Int) else if 4 < p then 0 else 1) = 1 by rw [if_neg (by omega), if_neg (by omega)], if_neg (by decide)]
  have hq : ∀ x : Int, (q = 0 ∨ q = 1 ∨ q = 2 ∨ q = 3 ∨ q = 4 ∨ q = 5) → (if (0 ≤ p ∧ p ≤ 4) ∧ 0 ≤ q ∧ q ≤ 5 then (0 : Int) else -1) = 0 := fun x hx => if_pos ⟨hp, by omega⟩
  rw [wp_ite]; refine ⟨fun _ => ?_, fun m0 => ?_⟩
  · rw [wp_ite]; refine ⟨fun e => ?_, fun n0 => ?_⟩
    · rw [hq 0 (by omega), zd_allJumps h, Option.bind_some]; exact zd_answer FdD.rf
    rw [wp_ite]; refine ⟨fun e => ?_, fun n1 => ?_⟩
    · rw [hq 0 (by omega), t0]; exact zd_answer FdD.rf
    rw [wp_ite]; refine ⟨fun e => ?_, fun n2 => ?_⟩
    · rw [hq 0 (by omega), zd_turned h, Option.bind_some]; exact zd_answer FdD.rf
    rw [wp_ite]; refine ⟨fun e => ?_, fun n3 => ?_⟩
    · have e3 : m_X4_pageCount 162 D = some 0 := by unfold m_X4_pageCount; rw [t0, if_pos rfl]
      rw [hq 0 (by omega), e3, Option.bind_some]; exact zd_answer FdD.rf
    rw [wp_ite]; refine ⟨fun e => ?_, fun n4 => ?_⟩
    · rw [hq 0 (by omega), wp_bind]
      refine wp_mono (zd_touched h) ?_
      rintro ⟨x, D'⟩ ⟨z1, z2⟩
      simp only at z1 z2
      subst z1
      exact zd_answer z2
    rw [wp_ite]; refine ⟨fun e => ?_, fun n5 => ?_⟩
    · rw [hq 0 (by omega), zd_fallCount h, Option.bind_some]; exact zd_answer FdD.rf
    rw [if_neg (by omega)]; exact zd_refuse
  rw [wp_ite]; refine ⟨fun _ => ?_, fun m1 => ?_⟩
  · rw [wp_ite]; refine ⟨fun e => ?_, fun n0 => ?_⟩
    · rw [hq 0 (by omega), zd_allJumps h, Option.bind_some]; exact zd_answer FdD.rf
    rw [wp_ite]; refine ⟨fun e => ?_, fun n1 => ?_⟩
    · rw [hq 0 (by omega), t1]; exact zd_answer FdD.rf
    rw [wp_ite]; refine ⟨fun e => ?_, fun n2 => ?_⟩
    · rw [hq 0 (by omega), zd_turned h, Option.bind_some]; exact zd_answer FdD.rf
    rw [wp_ite]; refine ⟨fun e => ?_, fun n3 => ?_⟩
    · have e3 : m_X4_pageCount 167 D = some 0 := by unfold m_X4_pageCount; rw [t1, if_pos rfl]
      rw [hq 0 (by omega), e3, Option.bind_some]; exact zd_answer FdD.rf
    rw [wp_ite]; refine ⟨fun e => ?_, fun n4 => ?_⟩
    · rw [hq 0 (by omega), wp_bind]
      refine wp_mono (zd_touched h) ?_
      rintro ⟨x, D'⟩ ⟨z1, z2⟩
      simp only at z1 z2
      subst z1
      exact zd_answer z2
    rw [wp_ite]; refine ⟨fun e => ?_, fun n5 => ?_⟩
    · rw [hq 0 (by omega), zd_fallCount h, Option.bind_some]; exact zd_answer FdD.rf
    rw [if_neg (by omega)]; exact zd_refuse
  rw [wp_ite]; refine ⟨fun _ => ?_, fun m2 => ?_⟩
  · rw [wp_ite]; refine ⟨fun e => ?_, fun n0 => ?_⟩
    · rw [hq 0 (by omega), zd_allJumps h, Option.bind_some]; exact zd_answer FdD.rf
    rw [wp_ite]; refine ⟨fun e => ?_, fun n1 => ?_⟩
    · rw [hq 0 (by omega), t2]; exact zd_answer FdD.rf
    rw [wp_ite]; refine ⟨fun e => ?_, fun n2 => ?_⟩
    · rw [hq 0 (by omega), zd_turned h, Option.bind_some]; exact zd_answer FdD.rf
    rw [wp_ite]; refine ⟨fun e => ?_, fun n3 => ?_⟩
    · have e3 : m_X4_pageCount 172 D = some 0 := by unfold m_X4_pageCount; rw [t2, if_pos rfl]
      rw [hq 0 (by omega), e3, Option.bind_some]; exact zd_answer FdD.rf
    rw [wp_ite]; refine ⟨fun e => ?_, fun n4 => ?_⟩
    · rw [hq 0 (by omega), wp_bind]
      refine wp_mono (zd_touched h) ?_
      rintro ⟨x, D'⟩ ⟨z1, z2⟩
      simp only at z1 z2
      subst z1
      exact zd_answer z2
    rw [wp_ite]; refine ⟨fun e => ?_, fun n5 => ?_⟩
    · rw [hq 0 (by omega), zd_fallCount h, Option.bind_some]; exact zd_answer FdD.rf
    rw [if_neg (by omega)]; exact zd_refuse
  rw [wp_ite]; refine ⟨fun _ => ?_, fun m3 => ?_⟩
  · rw [wp_ite]; refine ⟨fun e => ?_, fun n0 => ?_⟩
    · rw [hq 0 (by omega), zd_allJumps h, Option.bind_some]; exact zd_answer FdD.rf
    rw [wp_ite]; refine ⟨fun e => ?_, fun n1 => ?_⟩
    · rw [hq 0 (by omega), t3]; exact zd_answer FdD.rf
    rw [wp_ite]; refine ⟨fun e => ?_, fun n2 => ?_⟩
    · rw [hq 0 (by omega), zd_turned h, Option.bind_some]; exact zd_answer FdD.rf
    rw [wp_ite]; refine ⟨fun e => ?_, fun n3 => ?_⟩
    · have e3 : m_X4_pageCount 177 D = some 0 := by unfold m_X4_pageCount; rw [t3, if_pos rfl]
      rw [hq 0 (by omega), e3, Option.bind_some]; exact zd_answer FdD.rf
    rw [wp_ite]; refine ⟨fun e => ?_, fun n4 => ?_⟩
    · rw [hq 0 (by omega), wp_bind]
      refine wp_mono (zd_touched h) ?_
      rintro ⟨x, D'⟩ ⟨z1, z2⟩
      simp only at z1 z2
      subst z1
      exact zd_answer z2
    rw [wp_ite]; refine ⟨fun e => ?_, fun n5 => ?_⟩
    · rw [hq 0 (by omega), zd_fallCount h, Option.bind_some]; exact zd_answer FdD.rf
    rw [if_neg (by omega)]; exact zd_refuse
  rw [wp_ite]; refine ⟨fun _ => ?_, fun m4 => ?_⟩
  · rw [wp_ite]; refine ⟨fun e => ?_, fun n0 => ?_⟩
    · rw [hq 0 (by omega), zd_allJumps h, Option.bind_some]; exact zd_answer FdD.rf
    rw [wp_ite]; refine ⟨fun e => ?_, fun n1 => ?_⟩
    · rw [hq 0 (by omega), t4]; exact zd_answer FdD.rf
    rw [wp_ite]; refine ⟨fun e => ?_, fun n2 => ?_⟩
    · rw [hq 0 (by omega), zd_turned h, Option.bind_some]; exact zd_answer FdD.rf
    rw [wp_ite]; refine ⟨fun e => ?_, fun n3 => ?_⟩
    · have e3 : m_X4_pageCount 182 D = some 0 := by unfold m_X4_pageCount; rw [t4, if_pos rfl]
      rw [hq 0 (by omega), e3, Option.bind_some]; exact zd_answer FdD.rf
    rw [wp_ite]; refine ⟨fun e => ?_, fun n4 => ?_⟩
    · rw [hq 0 (by omega), wp_bind]
      refine wp_mono (zd_touched h) ?_
      rintro ⟨x, D'⟩ ⟨z1, z2⟩
      simp only at z1 z2
      subst z1
      exact zd_answer z2
    rw [wp_ite]; refine ⟨fun e => ?_, fun n5 => ?_⟩
    · rw [hq 0 (by omega), zd_fallCount h, Option.bind_some]; exact zd_answer FdD.rf
    rw [if_neg (by omega)]; exact zd_refuse
  exfalso; omega
