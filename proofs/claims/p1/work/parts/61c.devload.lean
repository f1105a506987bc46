/-! ===== the class's load on an empty tape ===== -/
theorem zd_read {D : DT} : wp (m_X8_read 0 D) (fun D' => Fr [18, 19, 32, 34, 35] D D' ∧ D' 18 1 = 0 ∧ D' 19 0 = 0 ∧ D' 19 1 = 0 ∧ D' 19 2 = 0 ∧ D' 19 6 = 0) := by
  unfold m_X8_read m_X7_clear
  rw [Option.bind_some, abit_0, Option.bind_some]
  obtain ⟨D1, hD1⟩ : ∃ D1, D1 = dput (dput (dput (dput (dput (dput (dput (dput (dput D 19 0 0) 19 1 0) 19 2 0) 19 3 0) 19 4 64) 19 5 4) 19 6 0) 18 1 0) 18 6 0 := ⟨_, rfl⟩
  rw [← hD1]
  have f1 : Fr [18, 19, 32, 34, 35] D D1 := by
    rw [hD1]
    exact ((((((((Fr.rf.put (by simp)).put (by simp)).put (by simp)).put (by simp)).put (by simp)).put (by simp)).put (by simp)).put (by simp)).put (by simp)
  have a1 : D1 18 1 = 0 := by rw [hD1]; simp [dput_eq]
  have a2 : D1 19 0 = 0 := by rw [hD1]; simp [dput_eq]
  have a3 : D1 19 1 = 0 := by rw [hD1]; simp [dput_eq]
  have a4 : D1 19 2 = 0 := by rw [hD1]; simp [dput_eq]
  have a5 : D1 19 6 = 0 := by rw [hD1]; simp [dput_eq]
  clear hD1
  rw [wp_bind]
  refine wp_for 3 (fun j s => s.1 = (j : Int) ∧ Fr [34] D1 s.2) (Nat.zero_le _) ⟨rfl, Fr.rf⟩ ?_
  rintro j ⟨jj, D2⟩ hj ⟨g1, hF⟩
  simp only at g1 hF
  subst g1
  unfold b_X8_read_19
  dsimp only
  rw [wp_ite]
  constructor
  · intro q
    rw [abit_0, Option.bind_some, awr_n (by omega), Option.bind_some, wp_some, gd_l]
    exact ⟨by omega, w32_succ (by omega), hF.put (by simp)⟩
  intro q
  clear q
  have e18 : D2 18 = D1 18 := hF 18 (by decide)
  have e19 : D2 19 = D1 19 := hF 19 (by decide)
  rw [wp_some, gd_r]
  obtain ⟨D3, hD3⟩ : ∃ D3, D3 = dput (dput D2 35 1 0) 35 2 0 := ⟨_, rfl⟩
  obtain ⟨D4, hD4⟩ : ∃ D4, D4 = dput (dput (dput (dput D3 35 4 0) 35 2 0) 35 5 0) 35 3 0 := ⟨_, rfl⟩
  have hbeg : m_X9_begin 0 D2 = some D4 := by
    unfold m_X9_begin
    rw [w32_id (x := 900) (by omega) (by omega), if_neg (by decide), ← hD3]
    have b1 : D3 35 1 = 0 := by rw [hD3]; simp [dput_eq]
    have b2 : D3 35 2 = 0 := by rw [hD3]; simp [dput_eq]
    unfold m_X9_next
    rw [b2, loop_x (r := dput D3 35 4 0) (by simp [b_X9_next_8, dput_eq, b1]), Option.bind_some, dput_ss]
    have c1 : dput (dput (dput D3 35 4 0) 35 2 0) 35 5 0 35 4 = 0 := by simp [dput_eq]
    have c2 : dput (dput (dput D3 35 4 0) 35 2 0) 35 5 0 35 1 = 0 := by simp [dput_eq, b1]
    rw [c1, c2, if_neg (by decide), Option.bind_some, hD4]
  have f34 : Fr [35] D2 D4 := by
    rw [hD4, hD3]
    exact (((((Fr.rf.put (by simp)).put (by simp)).put (by simp)).put (by simp)).put (by simp)).put (by simp)
  have k3 : D4 35 3 = 0 := by rw [hD4, dput_ss]
  have s18 : D4 18 = D1 18 := (f34 18 (by decide)).trans e18
  have s19 : D4 19 = D1 19 := (f34 19 (by decide)).trans e19
  rw [hbeg, Option.bind_some, loop_x (r := ((1 : Int), D4)) (by simp [b_X8_read_49, k3]), Option.bind_some]
  dsimp only
  rw [if_neg (by decide)]
  unfold m_X8_finish
  have t19 : dput D4 18 2 0 19 = D1 19 := by rw [dput_nb _ (by decide), s19]
  rw [loop_x (r := Sum.inr ()) (by simp [b_X8_finish_7, t19, a2]), Option.bind_some]
  dsimp only
  unfold m_X7_listBlocks
  rw [loop_x (r := dput D4 18 2 0) (by simp [b_X7_listBlocks_4, t19, a2]), Option.bind_some, wp_bind, wp_bind, wp_bind]
  refine wp_acp (by decide) (by decide) (by decide) (fun f => ?_)
  obtain ⟨D5, hD5⟩ : ∃ D5, D5 = dset (dput D4 18 2 0) 32 f := ⟨_, rfl⟩
  rw [← hD5, wp_some]
  have u19 : D5 19 = D1 19 := by rw [hD5, dset_nb _ (by decide), t19]
  have u18 : D5 18 1 = 0 := by rw [hD5, dset_nb _ (by decide), dput_sn _ (by decide), s18, a1]
  rw [loop_x (r := D5) (by simp [b_X8_finish_52, u19, a2]), Option.bind_some, loop_x (r := D5) (by simp [b_X8_finish_94, u19, a2, a4]), Option.bind_some, wp_some, wp_some]
  refine ⟨((f1.tr (hF.mo (by simp))).tr (f34.mo (by simp))).tr (by rw [hD5]; exact (Fr.rf.put (by simp)).set (by simp)), u18, ?_, ?_, ?_, ?_⟩
  · rw [u19, a2]
  · rw [u19, a3]
  · rw [u19, a4]
  · rw [u19, a5]
theorem zd_load {D : DT} (h21 : D 2 1 = 0) (h36 : D 36 1 = 0) {n : Int} : wp (m_X11_load n D) (Ans D (if n = 0 then 0 else -1)) := by
  unfold m_X11_load
  by_cases hn : n = 0
  rotate_left
  · rw [if_neg hn, wp_ite]; refine ⟨fun _ => zd_refuse, fun h => ?_⟩
    rw [h21, if_pos (by omega)]; exact zd_refuse
  subst hn
  rw [if_neg (by decide), h21, if_neg (by decide), if_pos rfl, wp_bind]
  refine wp_mono zd_read ?_
  rintro D5 ⟨f5, a1, a2, a3, a4, a5⟩
  have b1 : ∀ x : Int, dput (dput D5 2 1 0) 2 3 x 18 1 = 0 := fun x => by rw [dput_nb _ (by decide), dput_nb _ (by decide), a1]
  have b2 : ∀ x y : Int, dput (dput (dput D5 2 1 0) 2 3 x) 2 4 y 18 1 = 0 := fun x y => by rw [dput_nb _ (by decide), b1]
  rw [b1, if_pos rfl, Option.bind_some, b2, if_pos rfl, wp_bind]
  obtain ⟨D6, hD6⟩ : ∃ D6, D6 = dput (dput (dput D5 2 1 0) 2 3 (dput D5 2 1 0 18 1)) 2 4 (-1) := ⟨_, rfl⟩
  rw [← hD6]
  have f6 : Fr [2] D5 D6 := by rw [hD6]; exact ((Fr.rf.put (by simp)).put (by simp)).put (by simp)
  refine wp_mono (zd_keep (by rw [f6 36 (by decide), f5 36 (by decide), h36])) ?_
  intro D7 k7
  rw [wp_bind]
  refine wp_mono (zd_copy (r0 := 4) (r1 := 19) (Or.inr (by omega))) ?_
  rintro D8 ⟨k8, v8⟩
  have w19 : D7 19 = D5 19 := by rw [k7 19 (by decide) (by decide), f6 19 (by decide)]
  have e8 : E0 D8 := ⟨by rw [v8 0 (by decide), w19, a2], by rw [v8 1 (by decide), w19, a3], by rw [v8 2 (by decide), w19, a4], by rw [v8 6 (by decide), w19, a5]⟩
  rw [wp_bind]
  refine wp_mono (zd_workOut e8) ?_
  rintro D9 ⟨e9, f9⟩
  rw [e9.2.1]
  refine zd_answer ?_
  have g1 : FdD D D5 := FdD.of f5 (by decide)
  have g2 : FdD D5 D6 := FdD.of f6 (by decide)
  have g3 : FdD D6 D7 := fun c hc => k7 c (by omega) (by omega)
  have g4 : FdD D7 D8 := fun c hc => k8 c (by omega)
  have g5 : FdD D8 D9 := FdD.of f9 (by decide)
  exact (((g1.tr g2).tr g3).tr g4).tr g5
