/-! ===== the reference's feed, set, load on an empty program ===== -/
theorem z_lays {D : DT} {v : Int} {n : Nat} (hn : D 187 34 = (n : Int)) (h : n + 4 ≤ 900) : wp (m_X12_lays v D) (fun D' => Fr [187, 216] D D' ∧ D' 187 34 = ((n + 4 : Nat) : Int)) := by
  unfold m_X12_lays
  rw [wp_bind]
  refine wp_for 4 (fun j s => s.1 = 24 - 8 * (j : Int) ∧ Fr [187, 216] D s.2 ∧ s.2 187 34 = ((n + j : Nat) : Int)) (Nat.zero_le _) ⟨rfl, Fr.rf, hn⟩ ?_
  rintro j ⟨jj, D1⟩ hj ⟨g1, hF, g2⟩
  simp only at g1 hF g2
  subst g1
  unfold b_X12_lays_3
  dsimp only
  rw [wp_ite]
  constructor
  · intro q
    have : j = 4 := by omega
    subst this
    rw [wp_some, gd_r, wp_some]
    exact ⟨hF, g2⟩
  · intro q
    have hj2 : n + j < 900 := by omega
    have e : (24 - 8 * (j : Int)) + -8 = 24 - 8 * ((j + 1 : Nat) : Int) := by omega
    rw [g2, awr_n hj2, Option.bind_some, wp_some, gd_l]
    refine ⟨by omega, by show w32 _ = _; rw [e, w32_id (by omega) (by omega)], (hF.put (by simp)).put (by simp), ?_⟩
    dsimp only
    rw [dput_ss, dput_nb _ (by decide), g2]
    exact w32_succ (by omega)
theorem za_feed {D : DT} (h : D 187 34 = 0) {a b c d e : Int} : wp (m_X12_feed a b c d e D) (fun u => u.1 = 20) := by
  unfold m_X12_feed
  have h0 : dput D 187 3 0 187 34 = ((0 : Nat) : Int) := by rw [dput_sn _ (by decide), h]; rfl
  rw [h0, if_neg (by rw [w32_id (by omega) (by omega)]; omega), wp_bind]
  refine wp_mono (z_lays h0 (by omega)) ?_
  rintro D1 ⟨_, h1⟩
  rw [wp_bind]
  refine wp_mono (z_lays h1 (by omega)) ?_
  rintro D2 ⟨_, h2⟩
  rw [wp_bind]
  refine wp_mono (z_lays h2 (by omega)) ?_
  rintro D3 ⟨_, h3⟩
  rw [wp_bind]
  refine wp_mono (z_lays h3 (by omega)) ?_
  rintro D4 ⟨_, h4⟩
  rw [wp_bind]
  refine wp_mono (z_lays h4 (by omega)) ?_
  rintro D5 ⟨_, h5⟩
  rw [wp_some]
  exact h5
theorem z_copy {D : DT} {x y : Nat} (hx : x + 608 ≤ 4864) (hy : y + 608 ≤ 4864) (hd : x + 608 ≤ y ∨ y + 608 ≤ x) : wp (m_X12_copy (x : Int) (y : Int) D) (fun D' => Fr [188] D D' ∧ ∀ j, D' 188 j = if y ≤ j ∧ j < y + 608 then D 188 (x + (j - y)) else D 188 j) := by
  unfold m_X12_copy
  rw [wp_bind]
  refine wp_for 608 (fun k s => s.1 = (k : Int) ∧ Fr [188] D s.2 ∧ ∀ j, s.2 188 j = if y ≤ j ∧ j < y + k then D 188 (x + (j - y)) else D 188 j) (Nat.zero_le _) ⟨rfl, Fr.rf, fun j => by rw [if_neg (by omega)]⟩ ?_
  rintro k ⟨kk, D1⟩ hk ⟨g1, hF, g2⟩
  simp only at g1 hF g2
  subst g1
  unfold b_X12_copy_2
  dsimp only
  rw [wp_ite]
  constructor
  · intro q
    have hx2 : x + k < 2147483648 := by omega
    have hy2 : y + k < 2147483648 := by omega
    have hx3 : x + k < 4864 := by omega
    have hy3 : y + k < 4864 := by omega
    rw [w32_nn hx2, w32_nn hy2, ard_n hx3, Option.bind_some, awr_n hy3, Option.bind_some, wp_some, gd_l]
    refine ⟨by omega, w32_succ (by omega), hF.put (by simp), fun j => ?_⟩
    dsimp only
    rw [dput_eq]
    by_cases e : j = y + k
    · subst e
      rw [if_pos ⟨rfl, rfl⟩, if_pos (by omega), g2 (x + k), if_neg (by omega)]
      congr 1; omega
    · rw [if_neg (fun z => e z.2), g2 j]
      by_cases z : y ≤ j ∧ j < y + k
      · rw [if_pos z, if_pos (by omega)]
      · rw [if_neg z, if_neg (by omega)]
  · intro q
    have : k = 608 := by omega
    subst this
    rw [wp_some, gd_r, wp_some]
    exact ⟨hF, g2⟩
theorem z_keeps {D : DT} (h : D 187 1 = 0) : wp (m_X12_keeps D) (fun D' => Fr [187, 188] D D' ∧ (∀ j, j ≠ 1 → D' 187 j = D 187 j) ∧ ∀ j, j < 608 ∨ 1216 ≤ j → D' 188 j = D 188 j) := by
  unfold m_X12_keeps
  rw [h, if_neg (by decide), Option.bind_some, dput_ss, h]
  have e1 : w32 (0 + 1) = 1 := w32_01
  have e2 : w32 (608 * 1) = ((608 : Nat) : Int) := by rw [w32_id (by omega) (by omega)]; rfl
  rw [e1, e2, wp_bind]
  clear e1 e2
  have hc := z_copy (D := dput D 187 1 1) (x := 0) (y := 608) (by omega) (by omega) (Or.inl (by omega))
  refine wp_mono hc ?_
  rintro D' ⟨g1, g2⟩
  rw [wp_some]
  refine ⟨(Fr.rf.put (by simp)).tr (g1.mo (by simp)), fun j hj => by rw [g1 187 (by decide), dput_sn _ hj], fun j hj => ?_⟩
  rw [g2 j, if_neg (by omega), dput_nb _ (by decide)]
theorem za_set {D : DT} (h : E8 D) (h1 : D 187 1 = 0) {p q : Int} : wp (m_X12_set p q D) (fun u => u.1 = if p = 0 ∧ (0 ≤ q ∧ q ≤ 9999) ∧ q ≠ 0 then 0 else if p = 1 ∧ (16 ≤ q ∧ q ≤ 512) ∧ q ≠ 64 then 64 else if p = 2 ∧ (1 ≤ q ∧ q ≤ 16) ∧ q ≠ 4 then 4 else -1) := by
  have hb : E8 (dput (dput D 187 3 0) 187 2 0) := h.cg (by rw [dput_nb _ (by decide), dput_nb _ (by decide)])
  have hk : dput (dput D 187 3 0) 187 2 0 187 1 = 0 := by rw [dput_sn _ (by decide), dput_sn _ (by decide), h1]
  obtain ⟨_, _, _, b3, b4, b5, _⟩ := id hb
  have hgo : ∀ (k : Nat) (was : Int), (k = 3 ∨ k = 4 ∨ k = 5) → p = ((k - 3 : Nat) : Int) → dput (dput D 187 3 0) 187 2 0 188 k = was → wp ((ard (dput (dput D 187 3 0) 187 2 0) 188 4864 (w32 (3 + p))).bind fun x7 => if x7 = q then ((m_X12_refuse 4 (dput (dput D 187 3 0) 187 2 0)).bind fun (x8, D9) => some (x8, D9)) else ((m_X12_keeps (dput (dput D 187 3 0) 187 2 0)).bind fun D10 => (awr D10 188 4864 (w32 (3 + p)) q).bind fun D11 => some (x7, D11))) (fun u => u.1 = if was = q then -1 else was) := by
    intro k was hk3 hp hw
    rw [rd k (by omega) (by omega), Option.bind_some, hw]
    by_cases e : was = q
    · rw [if_pos e, if_pos e]
      unfold m_X12_refuse
      rw [Option.bind_some, wp_some]
    · rw [if_neg e, if_neg e, wp_bind]
      refine wp_mono (z_keeps hk) ?_
      rintro D' _
      rw [wr k (by omega) (by omega), Option.bind_some, wp_some]
  have href : ∀ Q : Int × DT → Prop, (∀ D', Q (-1, D')) → wp ((m_X12_refuse 1 (dput (dput D 187 3 0) 187 2 0)).bind fun (x5, D6) => some (x5, D6)) Q := by
    intro Q hQ
    unfold m_X12_refuse
    rw [Option.bind_some, wp_some]
    exact hQ _
  unfold m_X12_set
  by_cases p0 : p = 0
  · rw [if_pos p0, z_isIn, Option.bind_some, Option.bind_some]
    by_cases hq : 0 ≤ q ∧ q ≤ 9999
    · rw [show (if q < 0 then (0 : Int) else if 9999 < q then 0 else 1) = 1 by rw [if_neg (by omega), if_neg (by omega)], if_neg (by decide)]
      refine wp_mono (hgo 3 0 (Or.inl rfl) (by omega) b3) ?_
      intro u hu
      rw [hu]
      by_cases e : (0 : Int) = q
      · rw [if_pos e, if_neg (by omega), if_neg (by omega), if_neg (by omega)]
      · rw [if_neg e, if_pos ⟨p0, hq, fun z => e z.symm⟩]
    · rw [show (if q < 0 then (0 : Int) else if 9999 < q then 0 else 1) = 0 by split; rfl; rw [if_pos (by omega)], if_pos rfl]
      refine href _ (fun D' => ?_)
      rw [if_neg (by omega), if_neg (by omega), if_neg (by omega)]
  rw [if_neg p0]
  by_cases p1 : p = 1
  · rw [if_pos p1, z_isIn, Option.bind_some, Option.bind_some]
    by_cases hq : 16 ≤ q ∧ q ≤ 512
    · rw [show (if q < 16 then (0 : Int) else if 512 < q then 0 else 1) = 1 by rw [if_neg (by omega), if_neg (by omega)], if_neg (by decide)]
      refine wp_mono (hgo 4 64 (Or.inr (Or.inl rfl)) (by omega) b4) ?_
      intro u hu
      rw [hu]
      by_cases e : (64 : Int) = q
      · rw [if_pos e, if_neg (by omega), if_neg (by omega), if_neg (by omega)]
      · rw [if_neg e, if_neg (by omega), if_pos ⟨p1, hq, fun z => e z.symm⟩]
    · rw [show (if q < 16 then (0 : Int) else if 512 < q then 0 else 1) = 0 by split; rfl; rw [if_pos (by omega)], if_pos rfl]
      refine href _ (fun D' => ?_)
      rw [if_neg (by omega), if_neg (by omega), if_neg (by omega)]
  rw [if_neg p1]
  by_cases p2 : p = 2
  · rw [if_pos p2, z_isIn, Option.bind_some]
    by_cases hq : 1 ≤ q ∧ q ≤ 16
    · rw [show (if q < 1 then (0 : Int) else if 16 < q then 0 else 1) = 1 by rw [if_neg (by omega), if_neg (by omega)], if_neg (by decide), Option.bind_some, if_neg (by decide)]
      refine wp_mono (hgo 5 4 (Or.inr (Or.inr rfl)) (by omega) b5) ?_
      intro u hu
      rw [hu]
      by_cases e : (4 : Int) = q
      · rw [if_pos e, if_neg (by omega), if_neg (by omega), if_neg (by omega)]
      · rw [if_neg e, if_neg (by omega), if_neg (by omega), if_pos ⟨p2, hq, fun z => e z.symm⟩]
    · rw [show (if q < 1 then (0 : Int) else if 16 < q then 0 else 1) = 0 by split; rfl; rw [if_pos (by omega)], if_pos rfl, Option.bind_some, if_pos rfl]
      refine href _ (fun D' => ?_)
      rw [if_neg (by omega), if_neg (by omega), if_neg (by omega)]
  rw [if_neg p2, Option.bind_some, if_pos rfl]
  refine href _ (fun D' => ?_)
  rw [if_neg (by omega), if_neg (by omega), if_neg (by omega)]
theorem z_plain {D : DT} {b : Nat} (hb : b + 608 ≤ 4864) : wp (m_X12_plain (b : Int) D) (fun D' => Fr [188] D D' ∧ (∀ j, j < b ∨ b + 608 ≤ j → D' 188 j = D 188 j) ∧ ∀ j, j < 608 → D' 188 (b + j) = if j = 4 then 64 else if j = 5 then 4 else 0) := by
  unfold m_X12_plain
  rw [wp_bind]
  refine wp_for 608 (fun k s => s.1 = (k : Int) ∧ Fr [188] D s.2 ∧ (∀ j, j < b ∨ b + 608 ≤ j → s.2 188 j = D 188 j) ∧ ∀ j, j < k → s.2 188 (b + j) = 0) (Nat.zero_le _) ⟨rfl, Fr.rf, fun _ _ => rfl, fun j hj => by omega⟩ ?_
  rintro k ⟨kk, D1⟩ hk ⟨g1, hF, g2, g3⟩
  simp only at g1 hF g2 g3
  subst g1
  unfold b_X12_plain_2
  dsimp only
  rw [wp_ite]
  constructor
  · intro q
    have hy2 : b + k < 2147483648 := by omega
    have hy3 : b + k < 4864 := by omega
    rw [w32_nn hy2, awr_n hy3, Option.bind_some, wp_some, gd_l]
    refine ⟨by omega, w32_succ (by omega), hF.put (by simp), fun j hj => ?_, fun j hj => ?_⟩
    · dsimp only
      rw [dput_sn _ (by omega)]; exact g2 j hj
    · dsimp only
      by_cases e : j = k
      · subst e; rw [dput_ss]
      · rw [dput_sn _ (by omega)]; exact g3 j (by omega)
  · intro q
    have : k = 608 := by omega
    subst this
    rw [wp_some, gd_r, wr (b + 4) (by omega) (by omega), Option.bind_some, wr (b + 5) (by omega) (by omega), Option.bind_some, wp_some]
    refine ⟨(hF.put (by simp)).put (by simp), fun j hj => ?_, fun j hj => ?_⟩
    · rw [dput_sn _ (by omega), dput_sn _ (by omega)]; exact g2 j hj
    · rw [dput_eq, dput_eq]
      by_cases e4 : j = 4
      · subst e4; simp
      · by_cases e5 : j = 5
        · subst e5; simp
        · rw [if_neg (by omega), if_neg (by omega), if_neg e4, if_neg e5]; exact g3 j hj
