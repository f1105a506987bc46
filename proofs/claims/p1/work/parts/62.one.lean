/-! ===== one call on a fresh object ===== -/
def Ini (D : DT) : Prop :=
  (E4 D) ∧
  (E8 D) ∧
  (D 2 1 = 0) ∧
  (D 2 2 = 0) ∧
  (D 2 3 = -1) ∧
  (D 2 4 = -1) ∧
  (D 36 0 = 0) ∧
  (D 36 1 = 0) ∧
  (D 141 4 = 0) ∧
  (D 162 4 = 0 ∧ D 167 4 = 0 ∧ D 172 4 = 0 ∧ D 177 4 = 0 ∧ D 182 4 = 0) ∧
  (D 187 1 = 0) ∧
  (D 187 2 = 0) ∧
  (D 187 34 = 0) ∧
  (D 187 35 = -1) ∧
  (D 187 36 = -1)
theorem Ini.e4 {D : DT} (h : Ini D) : E4 D := h.1
theorem Ini.e8 {D : DT} (h : Ini D) : E8 D := h.2.1
theorem Ini.tap {D : DT} (h : Ini D) : D 2 1 = 0 := h.2.2.1
theorem Ini.sta {D : DT} (h : Ini D) : D 2 2 = 0 := h.2.2.2.1
theorem Ini.fk {D : DT} (h : Ini D) : D 2 3 = -1 := h.2.2.2.2.1
theorem Ini.fp {D : DT} (h : Ini D) : D 2 4 = -1 := h.2.2.2.2.2.1
theorem Ini.acts {D : DT} (h : Ini D) : D 36 0 = 0 := h.2.2.2.2.2.2.1
theorem Ini.newe {D : DT} (h : Ini D) : D 36 1 = 0 := h.2.2.2.2.2.2.2.1
theorem Ini.grps {D : DT} (h : Ini D) : D 141 4 = 0 := h.2.2.2.2.2.2.2.2.1
theorem Ini.tot {D : DT} (h : Ini D) : D 162 4 = 0 ∧ D 167 4 = 0 ∧ D 172 4 = 0 ∧ D 177 4 = 0 ∧ D 182 4 = 0 := h.2.2.2.2.2.2.2.2.2.1
theorem Ini.kept {D : DT} (h : Ini D) : D 187 1 = 0 := h.2.2.2.2.2.2.2.2.2.2.1
theorem Ini.rst {D : DT} (h : Ini D) : D 187 2 = 0 := h.2.2.2.2.2.2.2.2.2.2.2.1
theorem Ini.rtap {D : DT} (h : Ini D) : D 187 34 = 0 := h.2.2.2.2.2.2.2.2.2.2.2.2.1
theorem Ini.rfk {D : DT} (h : Ini D) : D 187 35 = -1 := h.2.2.2.2.2.2.2.2.2.2.2.2.2.1
theorem Ini.rfa {D : DT} (h : Ini D) : D 187 36 = -1 := h.2.2.2.2.2.2.2.2.2.2.2.2.2.2
theorem law_one {D : DT} (i : Ini D) : wp (b_L_law_18 6 (0, D)) (fun t => ∃ D', t = Sum.inl (6, D')) := by
  unfold b_L_law_18
  dsimp only
  rw [show w32 (w32 ((6 : Nat) : Int) - 6) = 0 by rw [w32_id (x := ((6 : Nat) : Int)) (by omega) (by omega), w32_id (by omega) (by omega)]; rfl, if_neg (by decide)]
  rw [show w32 ((0 : Int) + 1) = ((1 : Nat) : Int) by rw [w32_id (by omega) (by omega)]; rfl, show w32 ((0 : Int) + 2) = ((2 : Nat) : Int) by rw [w32_id (by omega) (by omega)]; rfl, show w32 ((0 : Int) + 3) = ((3 : Nat) : Int) by rw [w32_id (by omega) (by omega)]; rfl, show w32 ((0 : Int) + 4) = ((4 : Nat) : Int) by rw [w32_id (by omega) (by omega)]; rfl, show w32 ((0 : Int) + 5) = ((5 : Nat) : Int) by rw [w32_id (by omega) (by omega)]; rfl, show w32 ((0 : Int) + 6) = ((6 : Nat) : Int) by rw [w32_id (by omega) (by omega)]; rfl]
  rw [ard_v (i := 0) 0 rfl (by decide), Option.bind_some]
  rw [wp_ite]; refine ⟨fun _ => ?_, fun _ => ?_⟩
  · unfold m_X11_status
    rw [Option.bind_some, i.sta, wp_bind]
    refine wp_mono (za_status i.rst) ?_
    rintro ⟨y, D2⟩ hy
    simp only at hy
    subst hy
    dsimp only
    rw [if_pos rfl, wp_some]
    exact ⟨D2, rfl⟩
  rw [wp_ite]; refine ⟨fun _ => ?_, fun _ => ?_⟩
  · rw [ard_n (D := D) (a := 0) (n := 6) (k := 1) (by decide), Option.bind_some, ard_n (D := D) (a := 0) (n := 6) (k := 2) (by decide), Option.bind_some, ard_n (D := D) (a := 0) (n := 6) (k := 3) (by decide), Option.bind_some, ard_n (D := D) (a := 0) (n := 6) (k := 4) (by decide), Option.bind_some, ard_n (D := D) (a := 0) (n := 6) (k := 5) (by decide), Option.bind_some, wp_bind]
    refine wp_mono (zd_feed i.tap) ?_
    rintro ⟨x, D1⟩ ⟨hx, F⟩
    simp only at hx F
    subst hx
    dsimp only
    have r8 : E8 D1 := i.e8.cg (F 188 (Or.inr (by decide)))
    have r1 : D1 187 1 = 0 := by rw [F 187 (Or.inr (by decide))]; exact i.kept
    have r34 : D1 187 34 = 0 := by rw [F 187 (Or.inr (by decide))]; exact i.rtap
    rw [ard_n (D := D1) (a := 0) (n := 6) (k := 1) (by decide), Option.bind_some, ard_n (D := D1) (a := 0) (n := 6) (k := 2) (by decide), Option.bind_some, ard_n (D := D1) (a := 0) (n := 6) (k := 3) (by decide), Option.bind_some, ard_n (D := D1) (a := 0) (n := 6) (k := 4) (by decide), Option.bind_some, ard_n (D := D1) (a := 0) (n := 6) (k := 5) (by decide), Option.bind_some, F 0 (Or.inl rfl), wp_bind]
    refine wp_mono (za_feed r34) ?_
    rintro ⟨y, D2⟩ hy
    simp only at hy
    subst hy
    dsimp only
    rw [if_pos rfl, wp_some]
    exact ⟨D2, rfl⟩
  rw [wp_ite]; refine ⟨fun _ => ?_, fun _ => ?_⟩
  · rw [ard_n (D := D) (a := 0) (n := 6) (k := 1) (by decide), Option.bind_some, wp_bind]
    refine wp_mono (zd_load i.tap i.newe) ?_
    rintro ⟨x, D1⟩ ⟨hx, F⟩
    simp only at hx F
    subst hx
    dsimp only
    have r8 : E8 D1 := i.e8.cg (F 188 (Or.inr (by decide)))
    have r1 : D1 187 1 = 0 := by rw [F 187 (Or.inr (by decide))]; exact i.kept
    have r34 : D1 187 34 = 0 := by rw [F 187 (Or.inr (by decide))]; exact i.rtap
    rw [ard_n (D := D1) (a := 0) (n := 6) (k := 1) (by decide), Option.bind_some, F 0 (Or.inl rfl), wp_bind]
    refine wp_mono (za_load r8 r1 r34) ?_
    rintro ⟨y, D2⟩ hy
    simp only at hy
    subst hy
    dsimp only
    rw [if_pos rfl, wp_some]
    exact ⟨D2, rfl⟩
  rw [wp_ite]; refine ⟨fun _ => ?_, fun _ => ?_⟩
  · rw [ard_n (D := D) (a := 0) (n := 6) (k := 1) (by decide), Option.bind_some, zd_fault i.fk i.fp, Option.bind_some, Option.bind_some, wp_bind]
    refine wp_mono (za_fault i.rfk i.rfa) ?_
    rintro ⟨y, D2⟩ hy
    simp only at hy
    subst hy
    dsimp only
    rw [if_pos rfl, wp_some]
    exact ⟨D2, rfl⟩
  rw [wp_ite]; refine ⟨fun _ => ?_, fun _ => ?_⟩
  · rw [ard_n (D := D) (a := 0) (n := 6) (k := 1) (by decide), Option.bind_some, wp_bind]
    refine wp_mono (zd_many i.e4 i.grps i.acts) ?_
    rintro ⟨x, D1⟩ ⟨hx, F⟩
    simp only at hx F
    subst hx
    dsimp only
    have r8 : E8 D1 := i.e8.cg (F 188 (Or.inr (by decide)))
    have r1 : D1 187 1 = 0 := by rw [F 187 (Or.inr (by decide))]; exact i.kept
    have r34 : D1 187 34 = 0 := by rw [F 187 (Or.inr (by decide))]; exact i.rtap
    rw [ard_n (D := D1) (a := 0) (n := 6) (k := 1) (by decide), Option.bind_some, F 0 (Or.inl rfl), wp_bind]
    refine wp_mono (za_many r8 r1) ?_
    rintro ⟨y, D2⟩ hy
    simp only at hy
    subst hy
    dsimp only
    rw [if_pos rfl, wp_some]
    exact ⟨D2, rfl⟩
  rw [wp_ite]; refine ⟨fun _ => ?_, fun _ => ?_⟩
  · rw [ard_n (D := D) (a := 0) (n := 6) (k := 1) (by decide), Option.bind_some, ard_n (D := D) (a := 0) (n := 6) (k := 2) (by decide), Option.bind_some, wp_bind]
    refine wp_mono (zd_function i.e4) ?_
    rintro ⟨x, D1⟩ ⟨hx, F⟩
    simp only at hx F
    subst hx
    dsimp only
    have r8 : E8 D1 := i.e8.cg (F 188 (Or.inr (by decide)))
    have r1 : D1 187 1 = 0 := by rw [F 187 (Or.inr (by decide))]; exact i.kept
    have r34 : D1 187 34 = 0 := by rw [F 187 (Or.inr (by decide))]; exact i.rtap
    rw [ard_n (D := D1) (a := 0) (n := 6) (k := 1) (by decide), Option.bind_some, ard_n (D := D1) (a := 0) (n := 6) (k := 2) (by decide), Option.bind_some, F 0 (Or.inl rfl), wp_bind]
    refine wp_mono (za_function r8) ?_
    rintro ⟨y, D2⟩ hy
    simp only at hy
    subst hy
    dsimp only
    rw [if_pos rfl, wp_some]
    exact ⟨D2, rfl⟩
  rw [wp_ite]; refine ⟨fun _ => ?_, fun _ => ?_⟩
  · rw [ard_n (D := D) (a := 0) (n := 6) (k := 1) (by decide), Option.bind_some, ard_n (D := D) (a := 0) (n := 6) (k := 2) (by decide), Option.bind_some, wp_bind]
    refine wp_mono (zd_block i.e4) ?_
    rintro ⟨x, D1⟩ ⟨hx, F⟩
    simp only at hx F
    subst hx
    dsimp only
    have r8 : E8 D1 := i.e8.cg (F 188 (Or.inr (by decide)))
    have r1 : D1 187 1 = 0 := by rw [F 187 (Or.inr (by decide))]; exact i.kept
    have r34 : D1 187 34 = 0 := by rw [F 187 (Or.inr (by decide))]; exact i.rtap
    rw [ard_n (D := D1) (a := 0) (n := 6) (k := 1) (by decide), Option.bind_some, ard_n (D := D1) (a := 0) (n := 6) (k := 2) (by decide), Option.bind_some, F 0 (Or.inl rfl), wp_bind]
    refine wp_mono (za_block r8) ?_
    rintro ⟨y, D2⟩ hy
    simp only at hy
    subst hy
    dsimp only
    rw [if_pos rfl, wp_some]
    exact ⟨D2, rfl⟩
  rw [wp_ite]; refine ⟨fun _ => ?_, fun _ => ?_⟩
  · rw [ard_n (D := D) (a := 0) (n := 6) (k := 1) (by decide), Option.bind_some, ard_n (D := D) (a := 0) (n := 6) (k := 2) (by decide), Option.bind_some, wp_bind]
    refine wp_mono (zd_arc i.e4) ?_
    rintro ⟨x, D1⟩ ⟨hx, F⟩
    simp only at hx F
    subst hx
    dsimp only
    have r8 : E8 D1 := i.e8.cg (F 188 (Or.inr (by decide)))
    have r1 : D1 187 1 = 0 := by rw [F 187 (Or.inr (by decide))]; exact i.kept
    have r34 : D1 187 34 = 0 := by rw [F 187 (Or.inr (by decide))]; exact i.rtap
    rw [ard_n (D := D1) (a := 0) (n := 6) (k := 1) (by decide), Option.bind_some, ard_n (D := D1) (a := 0) (n := 6) (k := 2) (by decide), Option.bind_some, F 0 (Or.inl rfl), wp_bind]
    refine wp_mono (za_arc r8) ?_
    rintro ⟨y, D2⟩ hy
    simp only at hy
    subst hy
    dsimp only
    rw [if_pos rfl, wp_some]
    exact ⟨D2, rfl⟩
  rw [wp_ite]; refine ⟨fun _ => ?_, fun _ => ?_⟩
  · rw [ard_n (D := D) (a := 0) (n := 6) (k := 1) (by decide), Option.bind_some, ard_n (D := D) (a := 0) (n := 6) (k := 2) (by decide), Option.bind_some, wp_bind]
    refine wp_mono (zd_weight i.e4) ?_
    rintro ⟨x, D1⟩ ⟨hx, F⟩
    simp only at hx F
    subst hx
    dsimp only
    have r8 : E8 D1 := i.e8.cg (F 188 (Or.inr (by decide)))
    have r1 : D1 187 1 = 0 := by rw [F 187 (Or.inr (by decide))]; exact i.kept
    have r34 : D1 187 34 = 0 := by rw [F 187 (Or.inr (by decide))]; exact i.rtap
    rw [ard_n (D := D1) (a := 0) (n := 6) (k := 1) (by decide), Option.bind_some, ard_n (D := D1) (a := 0) (n := 6) (k := 2) (by decide), Option.bind_some, F 0 (Or.inl rfl), wp_bind]
    refine wp_mono (za_weight r8) ?_
    rintro ⟨y, D2⟩ hy
    simp only at hy
    subst hy
    dsimp only
    rw [if_pos rfl, wp_some]
    exact ⟨D2, rfl⟩
  rw [wp_ite]; refine ⟨fun _ => ?_, fun _ => ?_⟩
  · rw [ard_n (D := D) (a := 0) (n := 6) (k := 1) (by decide), Option.bind_some, ard_n (D := D) (a := 0) (n := 6) (k := 2) (by decide), Option.bind_some, wp_bind]
    refine wp_mono (zd_order i.e4) ?_
    rintro ⟨x, D1⟩ ⟨hx, F⟩
    simp only at hx F
    subst hx
    dsimp only
    have r8 : E8 D1 := i.e8.cg (F 188 (Or.inr (by decide)))
    have r1 : D1 187 1 = 0 := by rw [F 187 (Or.inr (by decide))]; exact i.kept
    have r34 : D1 187 34 = 0 := by rw [F 187 (Or.inr (by decide))]; exact i.rtap
    rw [ard_n (D := D1) (a := 0) (n := 6) (k := 1) (by decide), Option.bind_some, ard_n (D := D1) (a := 0) (n := 6) (k := 2) (by decide), Option.bind_some, F 0 (Or.inl rfl), wp_bind]
    refine wp_mono (za_order r8) ?_
    rintro ⟨y, D2⟩ hy
    simp only at hy
    subst hy
    dsimp only
    rw [if_pos rfl, wp_some]
    exact ⟨D2, rfl⟩
  rw [wp_ite]; refine ⟨fun _ => ?_, fun _ => ?_⟩
  · rw [ard_n (D := D) (a := 0) (n := 6) (k := 1) (by decide), Option.bind_some, ard_n (D := D) (a := 0) (n := 6) (k := 2) (by decide), Option.bind_some, ard_n (D := D) (a := 0) (n := 6) (k := 3) (by decide), Option.bind_some, wp_bind]
    refine wp_mono (zd_place i.e4) ?_
    rintro ⟨x, D1⟩ ⟨hx, F⟩
    simp only at hx F
    subst hx
    dsimp only
    have r8 : E8 D1 := i.e8.cg (F 188 (Or.inr (by decide)))
    have r1 : D1 187 1 = 0 := by rw [F 187 (Or.inr (by decide))]; exact i.kept
    have r34 : D1 187 34 = 0 := by rw [F 187 (Or.inr (by decide))]; exact i.rtap
    rw [ard_n (D := D1) (a := 0) (n := 6) (k := 1) (by decide), Option.bind_some, ard_n (D := D1) (a := 0) (n := 6) (k := 2) (by decide), Option.bind_some, ard_n (D := D1) (a := 0) (n := 6) (k := 3) (by decide), Option.bind_some, F 0 (Or.inl rfl), wp_bind]
    refine wp_mono (za_place r8) ?_
    rintro ⟨y, D2⟩ hy
    simp only at hy
    subst hy
    dsimp only
    rw [if_pos rfl, wp_some]
    exact ⟨D2, rfl⟩
  rw [wp_ite]; refine ⟨fun _ => ?_, fun _ => ?_⟩
  · rw [ard_n (D := D) (a := 0) (n := 6) (k := 1) (by decide), Option.bind_some, ard_n (D := D) (a := 0) (n := 6) (k := 2) (by decide), Option.bind_some, wp_bind]
    refine wp_mono (zd_falls i.e4) ?_
    rintro ⟨x, D1⟩ ⟨hx, F⟩
    simp only at hx F
    subst hx
    dsimp only
    have r8 : E8 D1 := i.e8.cg (F 188 (Or.inr (by decide)))
    have r1 : D1 187 1 = 0 := by rw [F 187 (Or.inr (by decide))]; exact i.kept
    have r34 : D1 187 34 = 0 := by rw [F 187 (Or.inr (by decide))]; exact i.rtap
    rw [ard_n (D := D1) (a := 0) (n := 6) (k := 1) (by decide), Option.bind_some, ard_n (D := D1) (a := 0) (n := 6) (k := 2) (by decide), Option.bind_some, F 0 (Or.inl rfl), wp_bind]
    refine wp_mono (za_falls r8) ?_
    rintro ⟨y, D2⟩ hy
    simp only at hy
    subst hy
    dsimp only
    rw [if_pos rfl, wp_some]
    exact ⟨D2, rfl⟩
  rw [wp_ite]; refine ⟨fun _ => ?_, fun _ => ?_⟩
  · rw [ard_n (D := D) (a := 0) (n := 6) (k := 1) (by decide), Option.bind_some, ard_n (D := D) (a := 0) (n := 6) (k := 2) (by decide), Option.bind_some, wp_bind]
    refine wp_mono (zd_cost i.e4 i.tot) ?_
    rintro ⟨x, D1⟩ ⟨hx, F⟩
    simp only at hx F
    subst hx
    dsimp only
    have r8 : E8 D1 := i.e8.cg (F 188 (Or.inr (by decide)))
    have r1 : D1 187 1 = 0 := by rw [F 187 (Or.inr (by decide))]; exact i.kept
    have r34 : D1 187 34 = 0 := by rw [F 187 (Or.inr (by decide))]; exact i.rtap
    rw [ard_n (D := D1) (a := 0) (n := 6) (k := 1) (by decide), Option.bind_some, ard_n (D := D1) (a := 0) (n := 6) (k := 2) (by decide), Option.bind_some, F 0 (Or.inl rfl), wp_bind]
    refine wp_mono (za_cost r8) ?_
    rintro ⟨y, D2⟩ hy
    simp only at hy
    subst hy
    dsimp only
    rw [if_pos rfl, wp_some]
    exact ⟨D2, rfl⟩
  rw [wp_ite]; refine ⟨fun _ => ?_, fun _ => ?_⟩
  · rw [ard_n (D := D) (a := 0) (n := 6) (k := 1) (by decide), Option.bind_some, ard_n (D := D) (a := 0) (n := 6) (k := 2) (by decide), Option.bind_some, wp_bind]
    refine wp_mono (zd_jumps i.e4) ?_
    rintro ⟨x, D1⟩ ⟨hx, F⟩
    simp only at hx F
    subst hx
    dsimp only
    have r8 : E8 D1 := i.e8.cg (F 188 (Or.inr (by decide)))
    have r1 : D1 187 1 = 0 := by rw [F 187 (Or.inr (by decide))]; exact i.kept
    have r34 : D1 187 34 = 0 := by rw [F 187 (Or.inr (by decide))]; exact i.rtap
    rw [ard_n (D := D1) (a := 0) (n := 6) (k := 1) (by decide), Option.bind_some, ard_n (D := D1) (a := 0) (n := 6) (k := 2) (by decide), Option.bind_some, F 0 (Or.inl rfl), wp_bind]
    refine wp_mono (za_jumps r8) ?_
    rintro ⟨y, D2⟩ hy
    simp only at hy
    subst hy
    dsimp only
    rw [if_pos rfl, wp_some]
    exact ⟨D2, rfl⟩
  rw [wp_ite]; refine ⟨fun _ => ?_, fun _ => ?_⟩
  · rw [ard_n (D := D) (a := 0) (n := 6) (k := 1) (by decide), Option.bind_some, wp_bind]
    refine wp_mono (zd_least i.e4) ?_
    rintro ⟨x, D1⟩ ⟨hx, F⟩
    simp only at hx F
    subst hx
    dsimp only
    have r8 : E8 D1 := i.e8.cg (F 188 (Or.inr (by decide)))
    have r1 : D1 187 1 = 0 := by rw [F 187 (Or.inr (by decide))]; exact i.kept
    have r34 : D1 187 34 = 0 := by rw [F 187 (Or.inr (by decide))]; exact i.rtap
    rw [ard_n (D := D1) (a := 0) (n := 6) (k := 1) (by decide), Option.bind_some, F 0 (Or.inl rfl), wp_bind]
    refine wp_mono (za_least r8) ?_
    rintro ⟨y, D2⟩ hy
    simp only at hy
    subst hy
    dsimp only
    rw [if_pos rfl, wp_some]
    exact ⟨D2, rfl⟩
  rw [wp_ite]; refine ⟨fun _ => ?_, fun _ => ?_⟩
  · rw [ard_n (D := D) (a := 0) (n := 6) (k := 1) (by decide), Option.bind_some, ard_n (D := D) (a := 0) (n := 6) (k := 2) (by decide), Option.bind_some, ard_n (D := D) (a := 0) (n := 6) (k := 3) (by decide), Option.bind_some, ard_n (D := D) (a := 0) (n := 6) (k := 4) (by decide), Option.bind_some, ard_n (D := D) (a := 0) (n := 6) (k := 5) (by decide), Option.bind_some, wp_bind]
    refine wp_mono (zd_run i.e4) ?_
    rintro ⟨x, D1⟩ ⟨hx, F⟩
    simp only at hx F
    subst hx
    dsimp only
    have r8 : E8 D1 := i.e8.cg (F 188 (Or.inr (by decide)))
    have r1 : D1 187 1 = 0 := by rw [F 187 (Or.inr (by decide))]; exact i.kept
    have r34 : D1 187 34 = 0 := by rw [F 187 (Or.inr (by decide))]; exact i.rtap
    rw [ard_n (D := D1) (a := 0) (n := 6) (k := 1) (by decide), Option.bind_some, ard_n (D := D1) (a := 0) (n := 6) (k := 2) (by decide), Option.bind_some, ard_n (D := D1) (a := 0) (n := 6) (k := 3) (by decide), Option.bind_some, ard_n (D := D1) (a := 0) (n := 6) (k := 4) (by decide), Option.bind_some, ard_n (D := D1) (a := 0) (n := 6) (k := 5) (by decide), Option.bind_some, F 0 (Or.inl rfl), wp_bind]
    refine wp_mono (za_run r8) ?_
    rintro ⟨y, D2⟩ hy
    simp only at hy
    subst hy
    dsimp only
    rw [if_pos rfl, wp_some]
    exact ⟨D2, rfl⟩
  rw [wp_ite]; refine ⟨fun _ => ?_, fun _ => ?_⟩
  · rw [ard_n (D := D) (a := 0) (n := 6) (k := 1) (by decide), Option.bind_some, ard_n (D := D) (a := 0) (n := 6) (k := 2) (by decide), Option.bind_some, wp_bind]
    refine wp_mono (zd_count i.e4) ?_
    rintro ⟨x, D1⟩ ⟨hx, F⟩
    simp only at hx F
    subst hx
    dsimp only
    have r8 : E8 D1 := i.e8.cg (F 188 (Or.inr (by decide)))
    have r1 : D1 187 1 = 0 := by rw [F 187 (Or.inr (by decide))]; exact i.kept
    have r34 : D1 187 34 = 0 := by rw [F 187 (Or.inr (by decide))]; exact i.rtap
    rw [ard_n (D := D1) (a := 0) (n := 6) (k := 1) (by decide), Option.bind_some, ard_n (D := D1) (a := 0) (n := 6) (k := 2) (by decide), Option.bind_some, F 0 (Or.inl rfl), wp_bind]
    refine wp_mono (za_count r8) ?_
    rintro ⟨y, D2⟩ hy
    simp only at hy
    subst hy
    dsimp only
    rw [if_pos rfl, wp_some]
    exact ⟨D2, rfl⟩
  rw [wp_ite]; refine ⟨fun _ => ?_, fun _ => ?_⟩
  · rw [ard_n (D := D) (a := 0) (n := 6) (k := 1) (by decide), Option.bind_some, ard_n (D := D) (a := 0) (n := 6) (k := 2) (by decide), Option.bind_some, wp_bind]
    refine wp_mono (zd_set i.e4 i.newe) ?_
    rintro ⟨x, D1⟩ ⟨hx, F⟩
    simp only at hx F
    subst hx
    dsimp only
    have r8 : E8 D1 := i.e8.cg (F 188 (Or.inr (by decide)))
    have r1 : D1 187 1 = 0 := by rw [F 187 (Or.inr (by decide))]; exact i.kept
    have r34 : D1 187 34 = 0 := by rw [F 187 (Or.inr (by decide))]; exact i.rtap
    rw [ard_n (D := D1) (a := 0) (n := 6) (k := 1) (by decide), Option.bind_some, ard_n (D := D1) (a := 0) (n := 6) (k := 2) (by decide), Option.bind_some, F 0 (Or.inl rfl), wp_bind]
    refine wp_mono (za_set r8 r1) ?_
    rintro ⟨y, D2⟩ hy
    simp only at hy
    subst hy
    dsimp only
    rw [if_pos rfl, wp_some]
    exact ⟨D2, rfl⟩
  rw [wp_ite]; refine ⟨fun _ => ?_, fun _ => ?_⟩
  · rw [ard_n (D := D) (a := 0) (n := 6) (k := 1) (by decide), Option.bind_some, wp_bind]
    refine wp_mono (zd_take i.e4) ?_
    rintro ⟨x, D1⟩ ⟨hx, F⟩
    simp only at hx F
    subst hx
    dsimp only
    have r8 : E8 D1 := i.e8.cg (F 188 (Or.inr (by decide)))
    have r1 : D1 187 1 = 0 := by rw [F 187 (Or.inr (by decide))]; exact i.kept
    have r34 : D1 187 34 = 0 := by rw [F 187 (Or.inr (by decide))]; exact i.rtap
    rw [ard_n (D := D1) (a := 0) (n := 6) (k := 1) (by decide), Option.bind_some, F 0 (Or.inl rfl), wp_bind]
    refine wp_mono (za_take r8) ?_
    rintro ⟨y, D2⟩ hy
    simp only at hy
    subst hy
    dsimp only
    rw [if_pos rfl, wp_some]
    exact ⟨D2, rfl⟩
  rw [wp_ite]; refine ⟨fun _ => ?_, fun _ => ?_⟩
  · rw [ard_n (D := D) (a := 0) (n := 6) (k := 1) (by decide), Option.bind_some, ard_n (D := D) (a := 0) (n := 6) (k := 2) (by decide), Option.bind_some, wp_bind]
    refine wp_mono (zd_move i.e4) ?_
    rintro ⟨x, D1⟩ ⟨hx, F⟩
    simp only at hx F
    subst hx
    dsimp only
    have r8 : E8 D1 := i.e8.cg (F 188 (Or.inr (by decide)))
    have r1 : D1 187 1 = 0 := by rw [F 187 (Or.inr (by decide))]; exact i.kept
    have r34 : D1 187 34 = 0 := by rw [F 187 (Or.inr (by decide))]; exact i.rtap
    rw [ard_n (D := D1) (a := 0) (n := 6) (k := 1) (by decide), Option.bind_some, ard_n (D := D1) (a := 0) (n := 6) (k := 2) (by decide), Option.bind_some, F 0 (Or.inl rfl), wp_bind]
    refine wp_mono (za_move r8) ?_
    rintro ⟨y, D2⟩ hy
    simp only at hy
    subst hy
    dsimp only
    rw [if_pos rfl, wp_some]
    exact ⟨D2, rfl⟩
  rw [wp_ite]; refine ⟨fun _ => ?_, fun _ => ?_⟩
  · rw [wp_bind]
    refine wp_mono (zd_undo i.acts) ?_
    rintro ⟨x, D1⟩ ⟨hx, F⟩
    simp only at hx F
    subst hx
    dsimp only
    have r8 : E8 D1 := i.e8.cg (F 188 (Or.inr (by decide)))
    have r1 : D1 187 1 = 0 := by rw [F 187 (Or.inr (by decide))]; exact i.kept
    have r34 : D1 187 34 = 0 := by rw [F 187 (Or.inr (by decide))]; exact i.rtap
    rw [wp_bind]
    refine wp_mono (za_undo r1) ?_
    rintro ⟨y, D2⟩ hy
    simp only at hy
    subst hy
    dsimp only
    rw [if_pos rfl, wp_some]
    exact ⟨D2, rfl⟩
  rw [wp_ite]; refine ⟨fun _ => ?_, fun _ => ?_⟩
  · rw [ard_n (D := D) (a := 0) (n := 6) (k := 1) (by decide), Option.bind_some, ard_n (D := D) (a := 0) (n := 6) (k := 2) (by decide), Option.bind_some, wp_bind]
    refine wp_mono (zd_moved i.e4) ?_
    rintro ⟨x, D1⟩ ⟨hx, F⟩
    simp only at hx F
    subst hx
    dsimp only
    have r8 : E8 D1 := i.e8.cg (F 188 (Or.inr (by decide)))
    have r1 : D1 187 1 = 0 := by rw [F 187 (Or.inr (by decide))]; exact i.kept
    have r34 : D1 187 34 = 0 := by rw [F 187 (Or.inr (by decide))]; exact i.rtap
    rw [ard_n (D := D1) (a := 0) (n := 6) (k := 1) (by decide), Option.bind_some, ard_n (D := D1) (a := 0) (n := 6) (k := 2) (by decide), Option.bind_some, F 0 (Or.inl rfl), wp_bind]
    refine wp_mono (za_moved r8) ?_
    rintro ⟨y, D2⟩ hy
    simp only at hy
    subst hy
    dsimp only
    rw [if_pos rfl, wp_some]
    exact ⟨D2, rfl⟩
  rw [wp_ite]; refine ⟨fun _ => ?_, fun _ => ?_⟩
  · rw [ard_n (D := D) (a := 0) (n := 6) (k := 1) (by decide), Option.bind_some, wp_bind]
    refine wp_mono (zd_best i.e4) ?_
    rintro ⟨x, D1⟩ ⟨hx, F⟩
    simp only at hx F
    subst hx
    dsimp only
    have r8 : E8 D1 := i.e8.cg (F 188 (Or.inr (by decide)))
    have r1 : D1 187 1 = 0 := by rw [F 187 (Or.inr (by decide))]; exact i.kept
    have r34 : D1 187 34 = 0 := by rw [F 187 (Or.inr (by decide))]; exact i.rtap
    rw [ard_n (D := D1) (a := 0) (n := 6) (k := 1) (by decide), Option.bind_some, F 0 (Or.inl rfl), wp_bind]
    refine wp_mono (za_best r8) ?_
    rintro ⟨y, D2⟩ hy
    simp only at hy
    subst hy
    dsimp only
    rw [if_pos rfl, wp_some]
    exact ⟨D2, rfl⟩
  rw [wp_ite]; refine ⟨fun _ => ?_, fun _ => ?_⟩
  · rw [ard_n (D := D) (a := 0) (n := 6) (k := 1) (by decide), Option.bind_some, wp_bind]
    refine wp_mono (zd_enough i.e4) ?_
    rintro ⟨x, D1⟩ ⟨hx, F⟩
    simp only at hx F
    subst hx
    dsimp only
    have r8 : E8 D1 := i.e8.cg (F 188 (Or.inr (by decide)))
    have r1 : D1 187 1 = 0 := by rw [F 187 (Or.inr (by decide))]; exact i.kept
    have r34 : D1 187 34 = 0 := by rw [F 187 (Or.inr (by decide))]; exact i.rtap
    rw [ard_n (D := D1) (a := 0) (n := 6) (k := 1) (by decide), Option.bind_some, F 0 (Or.inl rfl), wp_bind]
    refine wp_mono (za_enough r8) ?_
    rintro ⟨y, D2⟩ hy
    simp only at hy
    subst hy
    dsimp only
    rw [if_pos rfl, wp_some]
    exact ⟨D2, rfl⟩
  rw [wp_some]
  exact ⟨D, rfl⟩
theorem law_six {D : DT} (i : Ini D) {L : Nat} (hL : L ≤ 6) : ∃ D', m_L_law L D = some (1, D') := by
  have hend : ∀ (x : Int) (E : DT), (L : Int) - 6 < x → loop (b_L_law_18 L) (x, E) = some (.inr (.inr (.inr (.inr (.inr (.inr (.inr (.inr (.inr (.inr (.inr (.inr (.inr (.inr (.inr (.inr (.inr (.inr (.inr (.inr (.inr (.inr (.inr (.inr E)))))))))))))))))))))))) := by
    intro x E hx
    refine loop_x ?_
    unfold b_L_law_18
    dsimp only
    rw [w32_id (x := (L : Int)) (by omega) (by omega), w32_id (by omega) (by omega), if_pos hx]
  by_cases h6 : L = 6
  · subst h6
    obtain ⟨t, ht, D', e⟩ := law_one i
    subst e
    refine ⟨D', ?_⟩
    unfold m_L_law
    rw [loop_eq, ht, Option.bind_some]
    dsimp only
    rw [hend 6 D' (by decide), Option.bind_some]
  · refine ⟨D, ?_⟩
    unfold m_L_law
    rw [hend 0 D (by omega), Option.bind_some]
