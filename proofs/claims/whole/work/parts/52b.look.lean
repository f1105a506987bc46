/-! ===== Flows.mend: loosen, bind, carry, look ===== -/
def nd (P : PG) (f k : Nat) : Prop := (k < P 0 1 ∧ P 4 k = f) ∨ k = 40
theorem nd_lt {P : PG} (w : WF P) {f k : Nat} (h : nd P f k) : k < 41 := by
  have := w.b40
  rcases h with h | h <;> omega
theorem nd_u {P : PG} (w : WF P) {a : Nat} (ha : a < P 0 2) : nd P (fn P a) (P 9 a) := by
  rcases w.uo ha with h | h
  · exact Or.inr h
  · exact Or.inl h
theorem nd_v {P : PG} (w : WF P) {a : Nat} (ha : a < P 0 2) : nd P (fn P a) (P 10 a) := by
  rcases w.vo ha with h | h
  · exact Or.inr h
  · exact Or.inl h
theorem s_loosen {D : DT} {P : PG} (w : WF P) (d : DevP D 4 P) {f : Nat} (hf : f < P 0 0) : wp (m_X2_loosen (f : Int) D) (fun D' => Fr [125, 128, 129, 130] D D' ∧ (∀ k, nd P f k → D' 128 k = (k : Int) ∧ D' 129 k = 0 ∧ D' 130 k = 0) ∧ (∀ b, b < P 0 1 → P 4 b = f → D' 125 b = 0) ∧ (∀ b, b < P 0 1 → P 4 b ≠ f → D' 125 b = D 125 b)) := by
  have h8 := w.f8; have h40 := w.b40
  unfold m_X2_loosen
  rw [wp_bind]
  refine wp_for (P 1 f) (fun k s => s.1 = (k : Int) ∧ Fr [125, 128, 129, 130] D s.2 ∧ (∀ b, (∃ k', k' < k ∧ mb P f k' = b) → s.2 128 b = (b : Int) ∧ s.2 129 b = 0 ∧ s.2 130 b = 0 ∧ s.2 125 b = 0) ∧ (∀ b, P 4 b ≠ f → s.2 125 b = D 125 b)) (Nat.zero_le _) ⟨rfl, Fr.rf, ?_, fun _ _ => rfl⟩ ?_
  · rintro b ⟨k', h, _⟩; omega
  rintro k ⟨kk, D1⟩ hk ⟨h1, hF, hA, hB⟩
  simp only at h1 hF hA hB
  subst h1
  have d1 := d.fr hF (by decide)
  unfold b_X2_loosen_2
  dsimp only
  rw [ard_n (by omega), Option.bind_some, d1.mem f hf, wp_ite]
  constructor
  rotate_left
  · intro q
    have : k = P 1 f := by omega
    subst this
    rw [wp_some, gd_r]
    unfold m_X2_loosenNode
    rw [awr_v (i := 40) 40 rfl (by decide), Option.bind_some, awr_v (i := 40) 40 rfl (by decide), Option.bind_some, awr_v (i := 40) 40 rfl (by decide), Option.bind_some, Option.bind_some, wp_some]
    refine ⟨((hF.put (by simp)).put (by simp)).put (by simp), fun k hk => ?_, fun b hb ho => ?_, fun b hb ho => ?_⟩
    · by_cases e : k = 40
      · subst e; simp [dput_eq]
      · rcases hk with ⟨q1, q2⟩ | q1
        · obtain ⟨k', hk', ek⟩ := w.cov k q1
          rw [q2] at hk' ek
          obtain ⟨a1, a2, a3, a4⟩ := hA k ⟨k', hk', ek⟩
          simp [dput_eq, e, a1, a2, a3]
        · exact absurd q1 e
    · obtain ⟨k', hk', ek⟩ := w.cov b hb
      rw [ho] at hk' ek
      obtain ⟨a1, a2, a3, a4⟩ := hA b ⟨k', hk', ek⟩
      simp [dput_eq, a4]
    · simp [dput_eq, hB b ho]
  intro q
  have hk2 : k < P 1 f := by omega
  have hb := w.mbl f k hf hk2
  have ho := w.mbo f k hf hk2
  unfold m_X2_loosenNode
  rw [s_member w d1 hf hk2, Option.bind_some, awr_n (by omega), Option.bind_some, awr_n (by omega), Option.bind_some, awr_n (by omega), Option.bind_some, awr_n (by omega), Option.bind_some, Option.bind_some, wp_some, gd_l]
  refine ⟨hk2, w32_succ (by have := w.lst f hf; omega), (((hF.put (by simp)).put (by simp)).put (by simp)).put (by simp), ?_, fun b hbo => ?_⟩
  · rintro b ⟨k', hk', e⟩
    by_cases e2 : b = mb P f k
    · subst e2; simp [dput_eq]
    · have : k' ≠ k := fun q => e2 (by rw [← e, q])
      obtain ⟨a1, a2, a3, a4⟩ := hA b ⟨k', by omega, e⟩
      simp [dput_eq, e2, a1, a2, a3, a4]
  · have e2 : b ≠ mb P f k := fun e => hbo (by rw [e]; exact ho)
    simp [dput_eq, e2, hB b hbo]
theorem s_bind {D : DT} {P : PG} (w : WF P) (d : DevP D 4 P) {f : Nat} (hf : f < P 0 0) {x y : Int} : wp (m_X2_bind (f : Int) x y D) (fun D' => Fr [128] D D' ∧ (∀ k, nd P f k → D' 128 k = if D 128 k = x then y else D 128 k)) := by
  have h8 := w.f8; have h40 := w.b40
  unfold m_X2_bind
  rw [wp_bind]
  refine wp_for (P 1 f) (fun k s => s.1 = (k : Int) ∧ Fr [128] D s.2 ∧ (∀ b, (∃ k', k' < k ∧ mb P f k' = b) → s.2 128 b = if D 128 b = x then y else D 128 b) ∧ (∀ b, (¬ ∃ k', k' < k ∧ mb P f k' = b) → s.2 128 b = D 128 b)) (Nat.zero_le _) ⟨rfl, Fr.rf, ?_, fun _ _ => rfl⟩ ?_
  · rintro b ⟨k', h, _⟩; omega
  rintro k ⟨kk, D1⟩ hk ⟨h1, hF, hA, hB⟩
  simp only at h1 hF hA hB
  subst h1
  have d1 := d.fr hF (by decide)
  unfold b_X2_bind_3
  dsimp only
  rw [ard_n (by omega), Option.bind_some, d1.mem f hf, wp_ite]
  constructor
  rotate_left
  · intro q
    have : k = P 1 f := by omega
    subst this
    have h40n : ¬ ∃ k', k' < P 1 f ∧ mb P f k' = 40 := by
      rintro ⟨k', h, e⟩
      have := w.mbl f k' hf h
      omega
    have h4 := hB 40 h40n
    have hfin : ∀ D' : DT, Fr [128] D1 D' → (∀ k, k ≠ 40 → D' 128 k = D1 128 k) → D' 128 40 = (if D 128 40 = x then y else D 128 40) → Fr [128] D D' ∧ (∀ k, nd P f k → D' 128 k = if D 128 k = x then y else D 128 k) := by
      intro D' f1 f2 f3
      refine ⟨hF.tr f1, fun k hk => ?_⟩
      by_cases e : k = 40
      · subst e; exact f3
      · rw [f2 k e]
        rcases hk with ⟨q1, q2⟩ | q1
        · obtain ⟨k', hk', ek⟩ := w.cov k q1
          rw [q2] at hk' ek
          exact hA k ⟨k', hk', ek⟩
        · exact absurd q1 e
    rw [wp_some, gd_r, ard_v (i := 40) 40 rfl (by decide), Option.bind_some, wp_ite]
    constructor
    · intro q2
      rw [awr_v (i := 40) 40 rfl (by decide), Option.bind_some, wp_some]
      refine hfin _ (Fr.rf.put (by simp)) (fun k hk => dput_sn D1 hk) ?_
      rw [dput_ss, ← h4, if_pos q2]
    · intro q2
      rw [wp_some]
      refine hfin _ Fr.rf (fun _ _ => rfl) ?_
      rw [← h4, if_neg q2]
  intro q
  have hk2 : k < P 1 f := by omega
  have hb := w.mbl f k hf hk2
  have hlk := w.lst f hf
  have hnew : ¬ ∃ k', k' < k ∧ mb P f k' = mb P f k := by
    rintro ⟨k', h, e⟩
    have := w.inc f k' k hf h hk2
    omega
  have hv := hB _ hnew
  have hfin : ∀ D' : DT, Fr [128] D1 D' → (∀ b, b ≠ mb P f k → D' 128 b = D1 128 b) → D' 128 (mb P f k) = (if D 128 (mb P f k) = x then y else D 128 (mb P f k)) → k < P 1 f ∧ w32 ((k : Int) + 1) = ((k + 1 : Nat) : Int) ∧ Fr [128] D D' ∧ (∀ b, (∃ k', k' < k + 1 ∧ mb P f k' = b) → D' 128 b = if D 128 b = x then y else D 128 b) ∧ (∀ b, (¬ ∃ k', k' < k + 1 ∧ mb P f k' = b) → D' 128 b = D 128 b) := by
    intro D' f1 f2 f3
    refine ⟨hk2, w32_succ (by omega), hF.tr f1, ?_, ?_⟩
    · rintro b ⟨k', hk', e⟩
      by_cases e2 : b = mb P f k
      · subst e2; exact f3
      · rw [f2 b e2]
        have : k' ≠ k := fun q => e2 (by rw [← e, q])
        exact hA b ⟨k', by omega, e⟩
    · intro b hn
      have e2 : b ≠ mb P f k := fun e => hn ⟨k, by omega, e.symm⟩
      rw [f2 b e2]
      exact hB b (fun ⟨k', h, e⟩ => hn ⟨k', by omega, e⟩)
  rw [s_member w d1 hf hk2, Option.bind_some, ard_n (by omega), Option.bind_some, wp_bind, wp_ite]
  constructor
  · intro q2
    rw [awr_n (by omega), Option.bind_some, wp_some, wp_some, gd_l]
    exact hfin _ (Fr.rf.put (by simp)) (fun b hb => dput_sn D1 hb) (by rw [dput_ss, ← hv, if_pos q2])
  · intro q2
    rw [wp_some, wp_some, gd_l]
    exact hfin _ Fr.rf (fun _ _ => rfl) (by rw [← hv, if_neg q2])
theorem s_carry {D : DT} {a x y : Nat} {c : Int} (ha : a < 88) (hx : x < 41) (hy : y < 41) (hc1 : -2000000 ≤ c) (hc2 : c ≤ 2000000) (h1 : ∀ k, k = x ∨ k = y → -1000000000 ≤ D 130 k ∧ D 130 k ≤ 1000000000) : wp (m_X2_carry (a : Int) (x : Int) (y : Int) c D) (fun D' => Fr [123, 130] D D' ∧ D' 123 a = c ∧ (∀ b, b ≠ a → D' 123 b = D 123 b) ∧ ∀ k, D' 130 k = D 130 k + ((if y = k then c else 0) - (if x = k then c else 0))) := by
  have q1 := h1 x (Or.inl rfl)
  have q2 := h1 y (Or.inr rfl)
  unfold m_X2_carry
  rw [awr_n ha, Option.bind_some, ard_n hx, Option.bind_some, awr_n hx, Option.bind_some, ard_n hy, Option.bind_some, awr_n hy, Option.bind_some, wp_some]
  refine ⟨((Fr.rf.put (by simp)).put (by simp)).put (by simp), by simp [dput_eq], fun b hb => by simp [dput_eq, hb], fun k => ?_⟩
  rw [dput_nb D (by decide : (130 : Nat) ≠ 123), w32_id (x := D 130 x - c) (by omega) (by omega)]
  by_cases e : y = k
  · subst e
    rw [dput_ss]
    by_cases e2 : x = y
    · subst e2
      rw [dput_ss, w32_id (by omega) (by omega)]
      simp
    · rw [dput_sn _ (fun q => e2 q.symm), dput_nb D (by decide : (130 : Nat) ≠ 123), w32_id (by omega) (by omega)]
      simp [e2]
  · rw [dput_sn _ (fun q => e q.symm)]
    by_cases e2 : x = k
    · subst e2
      rw [dput_ss]
      simp [e]; omega
    · rw [dput_sn _ (fun q => e2 q.symm), dput_nb D (by decide : (130 : Nat) ≠ 123)]
      simp [e, e2]
