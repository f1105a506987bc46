/-! ===== what the two makings leave ===== -/
set_option maxRecDepth 100000 in
theorem dini_4 {D : DT} : dini D 4 0 = 0 ∧ dini D 4 1 = 0 ∧ dini D 4 2 = 0 ∧ dini D 4 3 = 0 ∧ dini D 4 4 = 64 ∧ dini D 4 5 = 4 ∧ dini D 4 6 = 0 := ⟨rfl, rfl, rfl, rfl, rfl, rfl, rfl⟩
set_option maxRecDepth 100000 in
theorem dini_2 {D : DT} : dini D 2 1 = 0 ∧ dini D 2 2 = 0 ∧ dini D 2 3 = -1 ∧ dini D 2 4 = -1 := ⟨rfl, rfl, rfl, rfl⟩
set_option maxRecDepth 100000 in
theorem dini_36 {D : DT} : dini D 36 0 = 0 ∧ dini D 36 1 = 0 := ⟨rfl, rfl⟩
set_option maxRecDepth 100000 in
theorem dini_141 {D : DT} : dini D 141 4 = 0 := rfl
set_option maxRecDepth 100000 in
theorem dini_l {D : DT} : dini D 162 4 = 0 ∧ dini D 167 4 = 0 ∧ dini D 172 4 = 0 ∧ dini D 177 4 = 0 ∧ dini D 182 4 = 0 := ⟨rfl, rfl, rfl, rfl, rfl⟩
set_option maxRecDepth 100000 in
theorem dini_187 {D : DT} : dini D 187 1 = 0 ∧ dini D 187 2 = 0 ∧ dini D 187 34 = 0 ∧ dini D 187 35 = -1 ∧ dini D 187 36 = -1 := ⟨rfl, rfl, rfl, rfl, rfl⟩
theorem pure_six {D : DT} {L : Nat} (hL : L ≤ 6) : ∃ D9 D', m_X12_plain 0 (dini D) = some D9 ∧ m_L_law L D9 = some (1, D') := by
  obtain ⟨D9, h9, hF, -, hv⟩ := z_plain (D := dini D) (b := 0) (by omega)
  have hv : ∀ j, j < 608 → D9 188 j = if j = 4 then 64 else if j = 5 then 4 else 0 := fun j hj => by
    have := hv j hj
    rw [Nat.zero_add] at this
    exact this
  have i : Ini D9 := by
    refine ⟨?_, ⟨hv 0 (by omega), hv 1 (by omega), hv 2 (by omega), hv 3 (by omega), hv 4 (by omega), hv 5 (by omega), hv 6 (by omega)⟩, ?_⟩
    · unfold E4; rw [hF 4 (by decide)]; exact dini_4
    · rw [hF 2 (by decide), hF 36 (by decide), hF 141 (by decide), hF 162 (by decide), hF 167 (by decide), hF 172 (by decide), hF 177 (by decide), hF 182 (by decide), hF 187 (by decide)]
      exact ⟨dini_2.1, dini_2.2.1, dini_2.2.2.1, dini_2.2.2.2, dini_36.1, dini_36.2, dini_141, dini_l, dini_187.1, dini_187.2.1, dini_187.2.2.1, dini_187.2.2.2.1, dini_187.2.2.2.2⟩
  obtain ⟨D', h⟩ := law_six i hL
  exact ⟨D9, D', h9, h⟩
