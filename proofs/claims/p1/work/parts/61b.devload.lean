/-! ===== the class's feed, set, load on an empty program ===== -/
theorem wp_acp {D : DT} {s ns d nd : Nat} {n : Int} {Q : DT → Prop} (h0 : 0 ≤ n) (h1 : n ≤ (ns : Int)) (h2 : n ≤ (nd : Int)) (hQ : ∀ f, Q (dset D d f)) : wp (acp D s ns 0 d nd 0 n) Q :=
  ⟨_, if_pos ⟨⟨by decide, by decide, h0⟩, by omega, by omega⟩, hQ _⟩
theorem zd_write {D : DT} {v : Int} {n : Nat} (hn : D 2 1 = (n : Int)) (h : n + 4 ≤ 900) : wp (m_X11_write v D) (fun D' => Fr [2, 3] D D' ∧ D' 2 1 = ((n + 4 : Nat) : Int)) := by
  unfold m_X11_write
  rw [wp_bind]
  refine wp_for 4 (fun j s => s.1 = 24 - 8 * (j : Int) ∧ Fr [2, 3] D s.2 ∧ s.2 2 1 = ((n + j : Nat) : Int)) (Nat.zero_le _) ⟨rfl, Fr.rf, hn⟩ ?_
  rintro j ⟨jj, D1⟩ hj ⟨g1, hF, g2⟩
  simp only at g1 hF g2
  subst g1
  unfold b_X11_write_3
  dsimp only
  rw [wp_ite]
  constructor
  · intro q
    have : j = 4 := by omega
    subst this
    rw [wp_some, gd_r, wp_some]
    exact ⟨hF, g2⟩
  · intro q
    have hj2 : n + j < 900 := by omega
    have e : (24 - 8 * (j : Int)) + -8 = 24 - 8 * ((j + 1 : Nat) : Int) := by omega
    rw [g2, if_pos (by omega), awr_n hj2, Option.bind_some, wp_some, gd_l]
    refine ⟨by omega, by show w32 _ = _; rw [e, w32_id (by omega) (by omega)], (hF.put (by simp)).put (by simp), ?_⟩
    dsimp only
    rw [dput_ss, dput_nb _ (by decide), g2]
    exact w32_succ (by omega)
theorem zd_feed {D : DT} (h : D 2 1 = 0) {a b c d e : Int} : wp (m_X11_feed a b c d e D) (Ans D 20) := by
  unfold m_X11_feed
  have h0 : D 2 1 = ((0 : Nat) : Int) := h
  rw [h0, if_neg (by rw [w32_id (by omega) (by omega)]; omega), wp_bind]
  refine wp_mono (zd_write h0 (by omega)) ?_
  rintro D1 ⟨f1, h1⟩
  rw [wp_bind]
  refine wp_mono (zd_write h1 (by omega)) ?_
  rintro D2 ⟨f2, h2⟩
  rw [wp_bind]
  refine wp_mono (zd_write h2 (by omega)) ?_
  rintro D3 ⟨f3, h3⟩
  rw [wp_bind]
  refine wp_mono (zd_write h3 (by omega)) ?_
  rintro D4 ⟨f4, h4⟩
  rw [wp_bind]
  refine wp_mono (zd_write h4 (by omega)) ?_
  rintro D5 ⟨f5, h5⟩
  rw [wp_some]
  exact ⟨h5, FdD.of ((((f1.tr f2).tr f3).tr f4).tr f5) (by decide)⟩
theorem zd_copy {D : DT} {r0 r1 : Nat} (h : r1 + 13 < r0 ∨ r0 + 13 < r1) : wp (m_X7_copy r0 r1 D) (fun D' => (∀ c, c < r0 ∨ r0 + 13 < c → D' c = D c) ∧ ∀ k, k < 7 → D' r0 k = D r1 k) := by
  have hne : ¬ r1 = r0 := by omega
  unfold m_X7_copy
  rw [wp_bind]; refine wp_acp (by decide) (by decide) (by decide) (fun f1 => ?_)
  rw [wp_bind]; refine wp_acp (by decide) (by decide) (by decide) (fun f2 => ?_)
  rw [wp_bind]; refine wp_acp (by decide) (by decide) (by decide) (fun f3 => ?_)
  rw [wp_bind]; refine wp_acp (by decide) (by decide) (by decide) (fun f4 => ?_)
  rw [wp_bind]; refine wp_acp (by decide) (by decide) (by decide) (fun f5 => ?_)
  rw [wp_bind]; refine wp_acp (by decide) (by decide) (by decide) (fun f6 => ?_)
  rw [wp_bind]; refine wp_acp (by decide) (by decide) (by decide) (fun f7 => ?_)
  rw [wp_bind]; refine wp_acp (by decide) (by decide) (by decide) (fun f8 => ?_)
  rw [wp_bind]; refine wp_acp (by decide) (by decide) (by decide) (fun f9 => ?_)
  rw [wp_bind]; refine wp_acp (by decide) (by decide) (by decide) (fun f10 => ?_)
  rw [wp_bind]; refine wp_acp (by decide) (by decide) (by decide) (fun f11 => ?_)
  rw [wp_bind]; refine wp_acp (by decide) (by decide) (by decide) (fun f12 => ?_)
  rw [wp_bind]; refine wp_acp (by decide) (by decide) (by decide) (fun f13 => ?_)
  rw [wp_some]
  constructor
  · intro c hc
    rw [dset_nb _ (by omega), dset_nb _ (by omega), dset_nb _ (by omega), dset_nb _ (by omega), dset_nb _ (by omega), dset_nb _ (by omega), dset_nb _ (by omega), dset_nb _ (by omega), dset_nb _ (by omega), dset_nb _ (by omega), dset_nb _ (by omega), dset_nb _ (by omega), dset_nb _ (by omega), dput_nb _ (by omega), dput_nb _ (by omega), dput_nb _ (by omega), dput_nb _ (by omega), dput_nb _ (by omega), dput_nb _ (by omega), dput_nb _ (by omega)]
  · intro k hk
    rw [dset_nb _ (by omega), dset_nb _ (by omega), dset_nb _ (by omega), dset_nb _ (by omega), dset_nb _ (by omega), dset_nb _ (by omega), dset_nb _ (by omega), dset_nb _ (by omega), dset_nb _ (by omega), dset_nb _ (by omega), dset_nb _ (by omega), dset_nb _ (by omega), dset_nb _ (by omega)]
    have hk7 : k = 0 ∨ k = 1 ∨ k = 2 ∨ k = 3 ∨ k = 4 ∨ k = 5 ∨ k = 6 := by omega
    rcases hk7 with rfl | rfl | rfl | rfl | rfl | rfl | rfl <;> simp [dput_eq, hne]
theorem zd_keep {D : DT} (h : D 36 1 = 0) : wp (m_X3_keep D) (fun D' => ∀ c, c ≠ 36 → (c < 52 ∨ 65 < c) → D' c = D c) := by
  unfold m_X3_keep
  rw [h, w32_01]
  have e : arem 1 6 = some 1 := by
    unfold arem
    rw [if_neg (by decide)]
    have : w32 (1 - w32 (w32 (Int.tdiv 1 6) * 6)) = 1 := by
      rw [show Int.tdiv 1 6 = 0 by decide, w32_id (x := 0) (by omega) (by omega), w32_id (x := 0 * 6) (by omega) (by omega), w32_id (by omega) (by omega)]; omega
    rw [this]
  rw [e, Option.bind_some, dput_ss, if_neg (by decide), if_pos rfl, wp_bind]
  refine wp_mono (zd_copy (Or.inl (by omega))) ?_
  rintro D' ⟨g1, _⟩
  rw [wp_some]
  intro c h1 h2
  rw [dput_nb _ h1, g1 c h2, dput_nb _ h1]
/-- no functions, blocks, arcs, trace -/
def E0 (D : DT) : Prop := D 4 0 = 0 ∧ D 4 1 = 0 ∧ D 4 2 = 0 ∧ D 4 6 = 0
theorem zd_measure {D : DT} (h : D 4 1 = 0) {r : Nat} (hr : r ≠ 4) : m_X4_measure r D = some (dput D r 4 0) := by
  have e : dput D r 4 0 4 1 = 0 := by rw [dput_nb _ (fun z => hr z.symm), h]
  unfold m_X4_measure
  rw [loop_x (r := D) (by simp [b_X4_measure_2, h]), Option.bind_some, loop_x (r := dput D r 4 0) (by simp [b_X4_measure_38, e]), Option.bind_some]
theorem zd_byLine {D : DT} (h : E0 D) {r s : Nat} (hr : r ≠ 4) (hr2 : r + 1 ≠ 4) : wp (m_X4_byLine r s D) (fun D' => E0 D' ∧ Fr [r, r + 1] D D') := by
  unfold m_X4_byLine
  rw [wp_bind]
  refine wp_acp (by decide) (by decide) (by decide) (fun f => ?_)
  have h1 : E0 (dset D (r + 1) f) := by unfold E0; rw [dset_nb _ (fun z => hr2 z.symm)]; exact h
  rw [zd_measure h1.2.1 hr, Option.bind_some, wp_some]
  refine ⟨?_, (Fr.rf.set (by simp)).put (by simp)⟩
  unfold E0; rw [dput_nb _ (fun z => hr z.symm)]; exact h1
theorem zd_byFunctions {D : DT} (h : E0 D) {r s : Nat} (hr : r ≠ 4) : wp (m_X4_byFunctions r s D) (fun D' => E0 D' ∧ Fr [r] D D') := by
  unfold m_X4_byFunctions
  rw [loop_x (r := ((0 : Int), D)) (by simp [b_X4_byFunctions_5, h.1]), Option.bind_some]
  dsimp only
  rw [loop_x (r := D) (by simp [b_X4_byFunctions_38, h.1]), Option.bind_some, zd_measure h.2.1 hr, Option.bind_some, wp_some]
  refine ⟨?_, Fr.rf.put (by simp)⟩
  unfold E0; rw [dput_nb _ (fun z => hr z.symm)]; exact h
theorem zd_sort {D : DT} {r s : Nat} : m_X11_sortDown r 0 s D = some D := by
  unfold m_X11_sortDown
  rw [loop_x (r := D) (by simp [b_X11_sortDown_2]), Option.bind_some]
theorem zd_gather {D : DT} (h : E0 D) : m_X1_gather D = some (dput D 141 4 0) := by
  have h2 : E0 (dput D 141 4 0) := by unfold E0; rw [dput_nb _ (by decide)]; exact h
  unfold m_X1_gather
  rw [loop_x (r := D) (by simp [b_X1_gather_2, h.1]), Option.bind_some, h.1, zd_sort, Option.bind_some, loop_x (r := D) (by simp [b_X1_gather_107, h.1]), Option.bind_some]
  have e1 : m_X1_standByDensity D = some (dput D 141 4 0) := by
    unfold m_X1_standByDensity
    rw [loop_x (r := dput D 141 4 0) (by simp [b_X1_standByDensity_7, h2.1]), Option.bind_some, dput_ss, zd_sort, Option.bind_some, loop_x (r := dput D 141 4 0) (by simp [b_X1_standByDensity_117, dput_ss]), Option.bind_some]
  have e2 : m_X1_standByTrace (dput D 141 4 0) = some (dput D 141 4 0) := by
    unfold m_X1_standByTrace
    rw [loop_x (r := ((0 : Int), dput D 141 4 0)) (by simp [b_X1_standByTrace_4, h2.2.2.2]), Option.bind_some]
    dsimp only
    rw [loop_x (r := dput D 141 4 0) (by simp [b_X1_standByTrace_41, h2.1]), Option.bind_some]
  rw [e1, Option.bind_some, e2, Option.bind_some]
theorem zd_workOut {D : DT} (h : E0 D) : wp (m_X11_workOut D) (fun D' => E0 D' ∧ Fr [141, 162, 163, 167, 172, 177, 182, 183] D D') := by
  have h2 : E0 (dput D 141 4 0) := by unfold E0; rw [dput_nb _ (by decide)]; exact h
  unfold m_X11_workOut
  rw [loop_x (r := D) (by simp [b_X11_workOut_2, h.1]), Option.bind_some, zd_gather h, Option.bind_some, wp_bind]
  refine wp_mono (zd_byLine h2 (by decide) (by decide)) ?_
  rintro D1 ⟨a1, f1⟩
  rw [wp_bind]
  refine wp_mono (zd_byFunctions a1 (by decide)) ?_
  rintro D2 ⟨a2, f2⟩
  rw [wp_bind]
  refine wp_mono (zd_byFunctions a2 (by decide)) ?_
  rintro D3 ⟨a3, f3⟩
  rw [wp_bind]
  refine wp_mono (zd_byFunctions a3 (by decide)) ?_
  rintro D4 ⟨a4, f4⟩
  rw [wp_bind]
  refine wp_mono (zd_byLine a4 (by decide) (by decide)) ?_
  rintro D5 ⟨a5, f5⟩
  rw [wp_some]
  exact ⟨a5, ((((((Fr.rf.put (by simp)).tr (f1.mo (by simp))).tr (f2.mo (by simp))).tr (f3.mo (by simp))).tr (f4.mo (by simp))).tr (f5.mo (by simp)))⟩
theorem zd_set {D : DT} (h : E4 D) (h36 : D 36 1 = 0) {p q : Int} : wp (m_X11_set p q D) (Ans D (if p = 0 ∧ (0 ≤ q ∧ q ≤ 9999) ∧ q ≠ 0 then 0 else if p = 1 ∧ (16 ≤ q ∧ q ≤ 512) ∧ q ≠ 64 then 64 else if p = 2 ∧ (1 ≤ q ∧ q ≤ 16) ∧ q ≠ 4 then 4 else -1)) := by
  obtain ⟨a0, a1, a2, a3, a4, a5, a6⟩ := id h
  have hgo : ∀ was : Int, wp ((m_X3_keep D).bind fun D7 => (m_X7_change 4 p q D7).bind fun D8 => (m_X11_workOut D8).bind fun D9 => (m_X11_answer was D9).bind fun (x10, D11) => some (x10, D11)) (Ans D was) := by
    intro was
    rw [wp_bind]
    refine wp_mono (zd_keep h36) ?_
    intro D7 k7
    have e7 : E0 D7 := by unfold E0; rw [k7 4 (by decide) (by decide)]; exact ⟨a0, a1, a2, a6⟩
    have f7 : FdD D D7 := fun c hc => k7 c (by omega) (by omega)
    rw [wp_bind]
    refine wp_mono (Q := fun D8 => E0 D8 ∧ Fr [4] D7 D8) ?_ ?_
    · have ok : ∀ i : Nat, 2 < i → i < 6 → E0 (dput D7 4 i q) ∧ Fr [4] D7 (dput D7 4 i q) := fun i h1 h2 => by
        refine ⟨?_, Fr.rf.put (by simp)⟩
        unfold E0
        rw [dput_sn _ (by omega), dput_sn _ (by omega), dput_sn _ (by omega), dput_sn _ (by omega)]
        exact e7
      unfold m_X7_change
      rw [wp_ite]; refine ⟨fun _ => wp_some.mpr (ok 3 (by decide) (by decide)), fun _ => ?_⟩
      rw [wp_ite]; exact ⟨fun _ => wp_some.mpr (ok 4 (by decide) (by decide)), fun _ => wp_some.mpr (ok 5 (by decide) (by decide))⟩
    · rintro D8 ⟨e8, f8⟩
      rw [wp_bind]
      refine wp_mono (zd_workOut e8) ?_
      rintro D9 ⟨e9, f9⟩
      exact zd_answer ((f7.tr (FdD.of f8 (by decide))).tr (FdD.of f9 (by decide)))
  unfold m_X11_set m_X7_canBe m_X7_setting
  by_cases p0 : p = 0
  · rw [if_pos p0, if_pos p0, a3]
    by_cases h1 : q < 0
    · rw [if_pos h1, Option.bind_some, if_pos rfl, if_neg (by omega), if_neg (by omega), if_neg (by omega)]; exact zd_refuse
    rw [if_neg h1]
    by_cases h2 : 9999 < q
    · rw [if_pos h2, Option.bind_some, if_pos rfl, if_neg (by omega), if_neg (by omega), if_neg (by omega)]; exact zd_refuse
    rw [if_neg h2, Option.bind_some, if_neg (by decide), Option.bind_some]
    by_cases h3 : (0 : Int) = q
    · rw [if_pos h3, if_neg (by omega), if_neg (by omega), if_neg (by omega)]; exact zd_refuse
    · rw [if_neg h3, if_pos (by omega)]; exact hgo 0
  rw [if_neg p0, if_neg p0]
  by_cases p1 : p = 1
  · rw [if_pos p1, if_pos p1, a4]
    by_cases h1 : q < 16
    · rw [if_pos h1, Option.bind_some, if_pos rfl, if_neg (by omega), if_neg (by omega), if_neg (by omega)]; exact zd_refuse
    rw [if_neg h1]
    by_cases h2 : 512 < q
    · rw [if_pos h2, Option.bind_some, if_pos rfl, if_neg (by omega), if_neg (by omega), if_neg (by omega)]; exact zd_refuse
    rw [if_neg h2, Option.bind_some, if_neg (by decide), Option.bind_some]
    by_cases h3 : (64 : Int) = q
    · rw [if_pos h3, if_neg (by omega), if_neg (by omega), if_neg (by omega)]; exact zd_refuse
    · rw [if_neg h3, if_neg (by omega), if_pos (by omega)]; exact hgo 64
  rw [if_neg p1, if_neg p1, a5]
  by_cases p2 : p = 2
  · rw [if_pos p2]
    by_cases h1 : q < 1
    · rw [if_pos h1, Option.bind_some, if_pos rfl, if_neg (by omega), if_neg (by omega), if_neg (by omega)]; exact zd_refuse
    rw [if_neg h1]
    by_cases h2 : 16 < q
    · rw [if_pos h2, Option.bind_some, if_pos rfl, if_neg (by omega), if_neg (by omega), if_neg (by omega)]; exact zd_refuse
    rw [if_neg h2, Option.bind_some, if_neg (by decide), Option.bind_some]
    by_cases h3 : (4 : Int) = q
    · rw [if_pos h3, if_neg (by omega), if_neg (by omega), if_neg (by omega)]; exact zd_refuse
    · rw [if_neg h3, if_neg (by omega), if_neg (by omega), if_pos (by omega)]; exact hgo 4
  rw [if_neg p2, Option.bind_some, if_pos rfl, if_neg (by omega), if_neg (by omega), if_neg (by omega)]
  exact zd_refuse
