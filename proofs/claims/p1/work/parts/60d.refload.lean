/-! ===== the reference's load on an empty program ===== -/
theorem za_load {D : DT} (h : E8 D) (h1 : D 187 1 = 0) (h34 : D 187 34 = 0) {n : Int} : wp (m_X12_load n D) (fun u => u.1 = if n = 0 then 0 else -1) := by
  unfold m_X12_load
  rw [z_isIn, Option.bind_some]
  have e34 : dput (dput D 187 3 0) 187 2 0 187 34 = 0 := by rw [dput_sn _ (by decide), dput_sn _ (by decide), h34]
  rw [e34]
  by_cases hn : n = 0
  rotate_left
  · rw [show (if n < 0 then (0 : Int) else if 0 < n then 0 else 1) = 0 by split; rfl; rw [if_pos (by omega)], if_pos rfl]
    unfold m_X12_refuse
    rw [Option.bind_some, wp_some, if_neg hn]
  subst hn
  rw [show (if (0 : Int) < 0 then (0 : Int) else if (0 : Int) < 0 then 0 else 1) = 1 by rfl, if_neg (by decide)]
  obtain ⟨D3, hD3⟩ : ∃ D3, D3 = dput (dput (dput (dput (dput (dput D 187 3 0) 187 2 0) 187 43 0) 187 40 0) 187 37 0) 187 47 0 := ⟨_, rfl⟩
  rw [← hD3]
  have q43 : D3 187 43 = 0 := by rw [hD3]; simp [dput_eq]
  have q40 : D3 187 40 = 0 := by rw [hD3]; simp [dput_eq]
  have q37 : D3 187 37 = 0 := by rw [hD3]; simp [dput_eq]
  have q1 : D3 187 1 = 0 := by rw [hD3]; simp [dput_eq, h1]
  rw [wp_bind]
  refine wp_mono (z_plain (b := 4256) (by omega)) ?_
  rintro D4 ⟨p1, -, p3⟩
  have r187 : D4 187 = D3 187 := p1 187 (by decide)
  rw [← r187] at q43 q40 q37 q1
  obtain ⟨D5, hD5⟩ : ∃ D5, D5 = dput (dput (dput D4 187 39 0) 187 40 1) 187 41 0 := ⟨_, rfl⟩
  have hreads : m_X12_reads D4 = some D5 := by
    unfold m_X12_reads
    rw [q40, loop_x (r := dput D4 187 39 0) (by simp [b_X12_reads_8, dput_eq, q43]), Option.bind_some, dput_ss, w32_01]
    have e1 : dput (dput D4 187 39 0) 187 40 1 187 39 = 0 := by rw [dput_sn _ (by decide), dput_ss]
    have e2 : dput (dput D4 187 39 0) 187 40 1 187 43 = 0 := by rw [dput_sn _ (by decide), dput_sn _ (by decide), q43]
    rw [e1, e2, if_neg (by decide), Option.bind_some]
    rw [← hD5]
    have e3 : D5 187 43 = 0 := by rw [hD5, dput_sn _ (by decide), e2]
    have e4 : D5 187 39 = 0 := by rw [hD5, dput_sn _ (by decide), e1]
    have e5 : ∀ a b : Int, m_X12_isOf (D5 187 39) a b D5 = some 0 := by
      intro a b
      unfold m_X12_isOf
      rw [e3, e4, if_neg (by decide)]
    rw [e5, Option.bind_some, if_pos rfl, e5, Option.bind_some, if_pos rfl]
  have s41 : D5 187 41 = 0 := by rw [hD5, dput_ss]
  have s37 : D5 187 37 = 0 := by rw [hD5]; simp [dput_eq, q37]
  have s1 : D5 187 1 = 0 := by rw [hD5]; simp [dput_eq, q1]
  have s188 : D5 188 = D4 188 := by rw [hD5, dput_nb _ (by decide), dput_nb _ (by decide), dput_nb _ (by decide)]
  have c0 : ard D5 188 4864 4256 = some 0 := by rw [ard_v (i := 4256) 4256 rfl (by decide), s188]; exact congrArg some (p3 0 (by omega))
  have c1 : ard D5 188 4864 4257 = some 0 := by rw [ard_v (i := 4257) 4257 rfl (by decide), s188]; exact congrArg some (p3 1 (by omega))
  rw [hreads, Option.bind_some]
  have hkey : m_X12_key D5 = some (-1) := by
    unfold m_X12_key
    rw [loop_x (r := Sum.inr ()) (by simp [b_X12_key_2, s41]), Option.bind_some]
  have hends : m_X12_ends D5 = some D5 := by
    unfold m_X12_ends
    rw [loop_x (r := D5) (by simp [b_X12_ends_2, c0]), Option.bind_some, loop_x (r := D5) (by simp [b_X12_ends_42, c1]), Option.bind_some, s37, if_neg (by decide), loop_x (r := D5) (by simp [b_X12_ends_131, c0]), Option.bind_some, loop_x (r := D5) (by simp [b_X12_ends_168, c1]), Option.bind_some]
  rw [loop_x (r := D5) (by simp [b_X12_load_59, s37, hkey]), Option.bind_some, loop_x (r := D5) (by simp [b_X12_load_80, s37, s41]), Option.bind_some, s37, if_pos rfl, hends, Option.bind_some, Option.bind_some]
  have t37 : ∀ x : Int, dput (dput D5 187 34 0) 187 35 x 187 37 = 0 := fun x => by rw [dput_sn _ (by decide), dput_sn _ (by decide), s37]
  have t37' : ∀ x y : Int, dput (dput (dput D5 187 34 0) 187 35 x) 187 36 y 187 37 = 0 := fun x y => by rw [dput_sn _ (by decide), t37]
  rw [t37, if_neg (by decide), Option.bind_some, t37', if_neg (by decide), wp_bind]
  refine wp_mono (z_keeps (by rw [dput_sn _ (by decide), dput_sn _ (by decide), dput_sn _ (by decide), s1])) ?_
  rintro D6 ⟨k1, k2, k3⟩
  have u188 : ∀ j, 1216 ≤ j → D6 188 j = D4 188 j := fun j hj => by rw [k3 j (Or.inr hj), dput_nb _ (by decide), dput_nb _ (by decide), dput_nb _ (by decide), s188]
  rw [wp_bind]
  refine wp_mono (z_copy (x := 4256) (y := 0) (by omega) (by omega) (Or.inr (by omega))) ?_
  rintro D7 ⟨k4, k5⟩
  have v : ∀ j, j < 608 → D7 188 j = if j = 4 then 64 else if j = 5 then 4 else 0 := fun j hj => by
    rw [k5 j, if_pos (by omega), Nat.sub_zero, u188 _ (by omega), p3 j hj]
  have h7 : E8 D7 := ⟨v 0 (by omega), v 1 (by omega), v 2 (by omega), v 3 (by omega), v 4 (by omega), v 5 (by omega), v 6 (by omega)⟩
  rw [z_laysSource h7, Option.bind_some, loop_x (r := D7) (by simp [b_X12_load_176, z_blocks h7.2.1]), Option.bind_some, z_blocks h7.2.1, Option.bind_some, wp_some]
  rfl
