/-! ===== Flows.mend: loosen, bind, carry, look ===== -/
def nd (P : PG) (f k : Nat) : Prop := (k < P 0 1 ∧ P 4 k = f) ∨ k = 40
theorem nd_lt {P : PG} (w : WF P) {f k : Nat} (h : nd P f k) : k < 41 := by
  have := w.b40
  rcases h with h | h <;> omega
theorem nd_u {P : PG} (w : WF P) {a : Nat} (ha : a < P 0 2) : nd P (fn P a) (P 9 a) := by
  rcases w.uo ha with h | h
  · exact Or.inr h
  · exact Or.inl h
theorem nd_v {P : PG} (w : WF P) {a : Nat} (ha : a < P 0 2) : nd P (fn P a) (P 10 a) := by
  rcases w.vo ha with h | h
  · exact Or.inr h
  · exact Or.inl h
theorem s_loosen {D : DT} {P : PG} (w : WF P) (d : DevP D 4 P) {f : Nat} (hf : f < P 0 0) : wp (m_X2_loosen (f : Int) D) (fun D' => Fr [125, 128, 129, 130] D D' ∧ (∀ k, nd P f k → D' 128 k = (k : Int) ∧ D' 129 k = 0 ∧ D' 130 k = 0) ∧ (∀ b, b < P 0 1 → P 4 b = f → D' 125 b = 0) ∧ (∀ b, b < P 0 1 → P 4 b ≠ f → D' 125 b = D 125 b)) := by
  have h8 := w.f8; have h40 := w.b40
  unfold m_X2_loosen
  rw [wp_bind]
  refine wp_for (P 1 f) (fun k s => s.1 = (k : Int) ∧ Fr [125, 128, 129, 130] D s.2 ∧ (∀ b, (∃ k', k' < k ∧ mb P f k' = b) → s.2 128 b = (b : Int) ∧ s.2 129 b = 0 ∧ s.2 130 b = 0 ∧ s.2 125 b = 0) ∧ (∀ b, P 4 b ≠ f → s.2 125 b = D 125 b)) (Nat.zero_le _) ⟨rfl, Fr.rf, ?_, fun _ _ => rfl⟩ ?_
  · rintro b ⟨k', h, _⟩; omega
  rintro k ⟨kk, D1⟩ hk ⟨h1, hF, hA, hB⟩
  simp only at h1 hF hA hB
  subst h1
  have d1 := d.fr hF (by decide)
  unfold b_X2_loosen_2
  dsimp only
  rw [ard_n (by omega), Option.bind_some, d1.mem f hf, wp_ite]
  constructor
  rotate_left
  · intro q
    have : k = P 1 f := by omega
    subst this
    rw [wp_some, gd_r]
    unfold m_X2_loosenNode
    rw [awr_v (i := 40) 40 rfl (by decide), Option.bind_some, awr_v (i := 40) 40 rfl (by decide), Option.bind_some, awr_v (i := 40) 40 rfl (by decide), Option.bind_some, Option.bind_some, wp_some]
    refine ⟨((hF.put (by simp)).put (by simp)).put (by simp), fun k hk => ?_, fun b hb ho => ?_, fun b hb ho => ?_⟩
    · by_cases e : k = 40
      · subst e; simp [dput_eq]
      · rcases hk with ⟨q1, q2⟩ | q1
        · obtain ⟨k', hk', ek⟩ := w.cov k q1
          rw [q2] at hk' ek
          obtain ⟨a1, a2, a3, a4⟩ := hA k ⟨k', hk', ek⟩
          simp [dput_eq, e, a1, a2, a3]
        · exact absurd q1 e
    · obtain ⟨k', hk', ek⟩ := w.cov b hb
      rw [ho] at hk' ek
      obtain ⟨a1, a2, a3, a4⟩ := hA b ⟨k', hk', ek⟩
      simp [dput_eq, a4]
    · simp [dput_eq, hB b ho]
  intro q
  have hk2 : k < P 1 f := by omega
  have hb := w.mbl f k hf hk2
  have ho := w.mbo f k hf hk2
  unfold m_X2_loosenNode
  rw [s_member w d1 hf hk2, Option.bind_some, awr_n (by omega), Option.bind_some, awr_n (by omega), Option.bind_some, awr_n (by omega), Option.bind_some, awr_n (by omega), Option.bind_some, Option.bind_some, wp_some, gd_l]
  refine ⟨hk2, w32_succ (by have := w.lst f hf; omega), (((hF.put (by simp)).put (by simp)).put (by simp)).put (by simp), ?_, fun b hbo => ?_⟩
  · rintro b ⟨k', hk', e⟩
    by_cases e2 : b = mb P f k
    · subst e2; simp [dput_eq]
    · have : k' ≠ k := fun q => e2 (by rw [← e, q])
      obtain ⟨a1, a2, a3, a4⟩ := hA b ⟨k', by omega, e⟩
      simp [dput_eq, e2, a1, a2, a3, a4]
  · have e2 : b ≠ mb P f k := fun e => hbo (by rw [e]; exact ho)
    simp [dput_eq, e2, hB b hbo]
theorem s_bind {D : DT} {P : PG} (w : WF P) (d : DevP D 4 P) {f : Nat} (hf : f < P 0 0) {x y : Int} : wp (m_X2_bind (f : Int) x y D) (fun D' => Fr [128] D D' ∧ (∀ k, nd P f k → D' 128 k = if D 128 k = x then y else D 128 k)) := by
  have h8 := w.f8; have h40 := w.b40
  unfold m_X2_bind
  rw [wp_bind]
  refine wp_for (P 1 f) (fun k s => s.1 = (k : Int) ∧ Fr [128] D s.2 ∧ (∀ b, (∃ k', k' < k ∧ mb P f k' = b) → s.2 128 b = if D 128 b = x then y else D 128 b) ∧ (∀ b, (¬ ∃ k', k' < k ∧ mb P f k' = b) → s.2 128 b = D 128 b)) (Nat.zero_le _) ⟨rfl, Fr.rf, ?_, fun _ _ => rfl⟩ ?_
  · rintro b ⟨k', h, _⟩; omega
  rintro k ⟨kk, D1⟩ hk ⟨h1, hF, hA, hB⟩
  simp only at h1 hF hA hB
  subst h1
  have d1 := d.fr hF (by decide)
  unfold b_X2_bind_3
  dsimp only
  rw [ard_n (by omega), Option.bind_some, d1.mem f hf, wp_ite]
  constructor
  rotate_left
  · intro q
    have : k = P 1 f := by omega
    subst this
    have h40n : ¬ ∃ k', k' < P 1 f ∧ mb P f k' = 40 := by
      rintro ⟨k', h, e⟩
      have := w.mbl f k' hf h
      omega
    have h4 := hB 40 h40n
    have hfin : ∀ D' : DT, Fr [128] D1 D' → (∀ k, k ≠ 40 → D' 128 k = D1 128 k) → D' 128 40 = (if D 128 40 = x then y else D 128 40) → Fr [128] D D' ∧ (∀ k, nd P f k → D' 128 k = if D 128 k = x then y else D 128 k) := by
      intro D' f1 f2 f3
      refine ⟨hF.tr f1, fun k hk => ?_⟩
      by_cases e : k = 40
      · subst e; exact f3
      · rw [f2 k e]
        rcases hk with ⟨q1, q2⟩ | q1
        · obtain ⟨k', hk', ek⟩ := w.cov k q1
          rw [q2] at hk' ek
          exact hA k ⟨k', hk', ek⟩
        · exact absurd q1 e
    rw [wp_some, gd_r, ard_v (i := 40) 40 rfl (by decide), Option.bind_some, wp_ite]
    constructor
    · intro q2
      rw [awr_v (i := 40) 40 rfl (by decide), Option.bind_some, wp_some]
      refine hfin _ (Fr.rf.put (by simp)) (fun k hk => dput_sn D1 hk) ?_
      rw [dput_ss, ← h4, if_pos q2]
    · intro q2
      rw [wp_some]
      refine hfin _ Fr.rf (fun _ _ => rfl) ?_
      rw [← h4, if_neg q2]
  intro q
  have hk2 : k < P 1 f := by omega
  have hb := w.mbl f k hf hk2
  have hlk := w.lst f hf
  have hnew : ¬ ∃ k', k' < k ∧ mb P f k' = mb P f k := by
    rintro ⟨k', h, e⟩
    have := w.inc f k' k hf h hk2
    omega
  have hv := hB _ hnew
  have hfin : ∀ D' : DT, Fr [128] D1 D' → (∀ b, b ≠ mb P f k → D' 128 b = D1 128 b) → D' 128 (mb P f k) = (if D 128 (mb P f k) = x then y else D 128 (mb P f k)) → k < P 1 f ∧ w32 ((k : Int) + 1) = ((k + 1 : Nat) : Int) ∧ Fr [128] D D' ∧ (∀ b, (∃ k', k' < k + 1 ∧ mb P f k' = b) → D' 128 b = if D 128 b = x then y else D 128 b) ∧ (∀ b, (¬ ∃ k', k' < k + 1 ∧ mb P f k' = b) → D' 128 b = D 128 b) := by
    intro D' f1 f2 f3
    refine ⟨hk2, w32_succ (by omega), hF.tr f1, ?_, ?_⟩
    · rintro b ⟨k', hk', e⟩
      by_cases e2 : b = mb P f k
      · subst e2; exact f3
      · rw [f2 b e2]
        have : k' ≠ k := fun q => e2 (by rw [← e, q])
        exact hA b ⟨k', by omega, e⟩
    · intro b hn
      have e2 : b ≠ mb P f k := fun e => hn ⟨k, by omega, e.symm⟩
      rw [f2 b e2]
      exact hB b (fun ⟨k', h, e⟩ => hn ⟨k', by omega, e⟩)
  rw [s_member w d1 hf hk2, Option.bind_some, ard_n (by omega), Option.bind_some, wp_bind, wp_ite]
  constructor
  · intro q2
    rw [awr_n (by omega), Option.bind_some, wp_some, wp_some, gd_l]
    exact hfin (dput D1 128 (mb P f k) y) (Fr.rf.put (by simp)) (fun b hb => dput_sn D1 hb) (by rw [dput_ss, ← hv, if_pos q2])
  · intro q2
    rw [wp_some, wp_some, gd_l]
    exact hfin D1 Fr.rf (fun _ _ => rfl) (by rw [← hv, if_neg q2])
theorem s_carry {D : DT} {a x y : Nat} {c : Int} (ha : a < 88) (hx : x < 41) (hy : y < 41) (hc1 : -2000000 ≤ c) (hc2 : c ≤ 2000000) (h1 : ∀ k, k = x ∨ k = y → -1000000000 ≤ D 130 k ∧ D 130 k ≤ 1000000000) : wp (m_X2_carry (a : Int) (x : Int) (y : Int) c D) (fun D' => Fr [123, 130] D D' ∧ D' 123 a = c ∧ (∀ b, b ≠ a → D' 123 b = D 123 b) ∧ ∀ k, D' 130 k = D 130 k + ((if y = k then c else 0) - (if x = k then c else 0))) := by
  have q1 := h1 x (Or.inl rfl)
  have q2 := h1 y (Or.inr rfl)
  unfold m_X2_carry
  rw [awr_n ha, Option.bind_some, ard_n hx, Option.bind_some, awr_n hx, Option.bind_some, ard_n hy, Option.bind_some, awr_n hy, Option.bind_some, wp_some]
  refine ⟨((Fr.rf.put (by simp)).put (by simp)).put (by simp), by simp [dput_eq], fun b hb => by simp [dput_eq, hb], fun k => ?_⟩
  rw [dput_nb D (by decide : (130 : Nat) ≠ 123), w32_id (x := D 130 x - c) (by omega) (by omega)]
  by_cases e : y = k
  · subst e
    rw [dput_ss]
    by_cases e2 : x = y
    · subst e2
      rw [dput_ss, w32_id (by omega) (by omega)]
      simp
    · rw [dput_sn _ (fun q => e2 q.symm), dput_nb D (by decide : (130 : Nat) ≠ 123), w32_id (by omega) (by omega)]
      simp [e2]
  · rw [dput_sn _ (fun q => e q.symm)]
    by_cases e2 : x = k
    · subst e2
      rw [dput_ss]
      simp [e]; omega
    · rw [dput_sn _ (fun q => e2 q.symm), dput_nb D (by decide : (130 : Nat) ≠ 123)]
      simp [e, e2]
theorem s_nodeOf {D : DT} {x : Nat} : m_X2_nodeOf (nz 40 x) D = some (x : Int) := by
  unfold m_X2_nodeOf nz
  by_cases h : x = 40
  · subst h; rfl
  · rw [if_neg h, if_neg (by omega)]
/-- the arcs that were looked at (the latest first), and what is kept of them -/
def LKr (P : PG) (f : Nat) (D0 : DT) (r : List Nat) (D : DT) : Prop :=
  Fr [123, 124, 127, 128, 129, 130] D0 D ∧
  (∀ k, nd P f k → D 128 k = ((kg (P 9) (P 10) r k : Nat) : Int)) ∧
  (∀ k, nd P f k → D 129 k = ls (ed (P 9) (P 10) k) (tl (P 9) (P 10) r)) ∧
  (∀ k, nd P f k → D 130 k = ls (nt (P 9) (P 10) (fun a => ((P 11 a : Nat) : Int)) k) (rl (P 9) (P 10) r)) ∧
  (∀ a ∈ r, D 124 a = (if a ∈ tl (P 9) (P 10) r then 1 else 0) ∧ D 127 a = (if a ∈ tl (P 9) (P 10) r then 1 else 0)) ∧
  (∀ a ∈ rl (P 9) (P 10) r, D 123 a = ((P 11 a : Nat) : Int)) ∧
  (∀ a, a ∉ r → D 123 a = D0 123 a ∧ D 124 a = D0 124 a)
theorem tl_len {u v : Nat → Nat} : ∀ {r : List Nat}, (tl u v r).length ≤ r.length
  | [] => Nat.le_refl _
  | b :: r => by
    have := tl_len (u := u) (v := v) (r := r)
    simp only [tl]
    split <;> simp only [List.length_cons] <;> omega
theorem s_look {D D0 : DT} {P : PG} (w : WF P) (d : DevP D 4 P) {f : Nat} (hf : f < P 0 0) {r : List Nat} (hr : ∀ b ∈ r, b < P 0 2) (hl : r.length ≤ 88) {a : Nat} (ha : a < P 0 2) (hfa : fn P a = f) (hn : a ∉ r) (h : LKr P f D0 r D) : wp (m_X2_look (f : Int) (a : Int) D) (LKr P f D0 (a :: r)) := by
  obtain ⟨hF, h1, h2, h3, h4, h5, h6⟩ := h
  have h88 := w.a88; have h40 := w.b40
  have hu : nd P f (P 9 a) := hfa ▸ nd_u w ha
  have hv : nd P f (P 10 a) := hfa ▸ nd_v w ha
  have hu41 := nd_lt w hu; have hv41 := nd_lt w hv
  have hca := w.cnt a ha
  have hnt : ∀ k, nd P f k → -1000000000 ≤ D 130 k ∧ D 130 k ≤ 1000000000 := by
    intro k hk
    rw [h3 k hk]
    have hb := ls_bound (f := nt (P 9) (P 10) (fun a => ((P 11 a : Nat) : Int)) k) (B := 9999) (l := rl (P 9) (P 10) r) (fun b hb => by
      have := w.cnt b (hr b (rl_sub hb))
      simp only [nt]; split <;> split <;> constructor <;> omega)
    have hlr := rl_len (u := P 9) (v := P 10) (r := r)
    omega
  unfold m_X2_look
  rw [ard_n (by omega), Option.bind_some, d.fro a ha, s_nodeOf, Option.bind_some, ard_n (by omega), Option.bind_some, d.to a ha, s_nodeOf, Option.bind_some, ard_n hu41, Option.bind_some, ard_n hv41, Option.bind_some, h1 _ hu, h1 _ hv]
  by_cases hx : kg (P 9) (P 10) r (P 9 a) = kg (P 9) (P 10) r (P 10 a)
  · have etl : tl (P 9) (P 10) (a :: r) = tl (P 9) (P 10) r := by simp only [tl, if_pos hx]
    have erl : rl (P 9) (P 10) (a :: r) = a :: rl (P 9) (P 10) r := by simp only [rl, if_pos hx]
    have ekg : ∀ k, kg (P 9) (P 10) (a :: r) k = kg (P 9) (P 10) r k := by
      intro k
      simp only [kg]
      split
      · rename_i h2; rw [h2, hx]
      · rfl
    rw [if_pos (by rw [hx]), Option.bind_some, abit_0, Option.bind_some, awr_n (by omega), Option.bind_some, Option.bind_some, awr_n (by omega), Option.bind_some, if_pos rfl, ard_n (by omega), Option.bind_some, dput_nb _ (by decide : (15 : Nat) ≠ 127), dput_nb _ (by decide : (15 : Nat) ≠ 124), d.cnt a ha, wp_bind]
    refine wp_mono (s_carry (by omega) hu41 hv41 (by omega) (by omega) (fun k hk => ?_)) ?_
    · rw [dput_nb _ (by decide : (130 : Nat) ≠ 127), dput_nb _ (by decide : (130 : Nat) ≠ 124)]
      rcases hk with rfl | rfl
      · exact hnt _ hu
      · exact hnt _ hv
    rintro D' ⟨g1, g2, g3, g4⟩
    rw [wp_some]
    have gn : ∀ c : Nat, c ≠ 123 → c ≠ 130 → c ≠ 127 → c ≠ 124 → D' c = D c := fun c q1 q2 q3 q4 => by
      rw [g1 c (by simp [q1, q2]), dput_nb _ q3, dput_nb _ q4]
    have g124 : D' 124 = dput D 124 a 0 124 := by rw [g1 124 (by decide), dput_nb _ (by decide)]
    have g127 : ∀ b, D' 127 b = if b = a then 0 else D 127 b := fun b => by rw [g1 127 (by decide), dput_eq]; simp [dput_eq]
    refine ⟨hF.tr (((Fr.rf.put (by simp)).put (by simp)).tr (g1.mo (by simp))), fun k hk => ?_, fun k hk => ?_, fun k hk => ?_, fun b hb => ?_, fun b hb => ?_, fun b hb => ?_⟩
    · rw [gn 128 (by decide) (by decide) (by decide) (by decide), h1 k hk, ekg]
    · rw [gn 129 (by decide) (by decide) (by decide) (by decide), h2 k hk, etl]
    · rw [g4 k, dput_nb _ (by decide : (130 : Nat) ≠ 127), dput_nb _ (by decide : (130 : Nat) ≠ 124), h3 k hk, erl]
      simp only [ls, nt]; omega
    · rw [etl, g124, g127]
      rcases List.mem_cons.mp hb with rfl | hb
      · rw [dput_ss, if_pos rfl, if_neg (fun q => hn (tl_sub q))]; exact ⟨rfl, rfl⟩
      · have hba : b ≠ a := fun e => hn (e ▸ hb)
        rw [dput_sn _ hba, if_neg hba]
        exact h4 b hb
    · rw [erl] at hb
      rcases List.mem_cons.mp hb with rfl | hb
      · exact g2
      · have hba : b ≠ a := fun e => hn (e ▸ rl_sub hb)
        rw [g3 b hba, dput_nb _ (by decide : (123 : Nat) ≠ 127), dput_nb _ (by decide : (123 : Nat) ≠ 124)]
        exact h5 b hb
    · have hb2 : ¬ (b = a ∨ b ∈ r) := fun q => hb (List.mem_cons.mpr q)
      have hba : b ≠ a := fun e => hb2 (Or.inl e)
      rw [g3 b hba, dput_nb _ (by decide : (123 : Nat) ≠ 127), dput_nb _ (by decide : (123 : Nat) ≠ 124), g124, dput_sn _ hba]
      exact h6 b (fun e => hb2 (Or.inr e))
  · have etl : tl (P 9) (P 10) (a :: r) = a :: tl (P 9) (P 10) r := by simp only [tl, if_neg hx]
    have erl : rl (P 9) (P 10) (a :: r) = rl (P 9) (P 10) r := by simp only [rl, if_neg hx]
    have huv : P 9 a ≠ P 10 a := fun e => hx (by rw [e])
    have hed : ∀ k, nd P f k → 0 ≤ D 129 k ∧ D 129 k ≤ 1000 := by
      intro k hk
      rw [h2 k hk]
      have hb := ls_bound (f := ed (P 9) (P 10) k) (B := 2) (l := tl (P 9) (P 10) r) (fun b hb => by unfold ed; split <;> split <;> omega)
      have hl2 := tl_len (u := P 9) (v := P 10) (r := r)
      have := ls_nn (f := ed (P 9) (P 10) k) (l := tl (P 9) (P 10) r) (fun _ _ => ed_nn)
      omega
    have q1 := hed _ hu; have q2 := hed _ hv
    rw [if_neg (fun e => hx (by omega)), Option.bind_some, abit_1, Option.bind_some, awr_n (by omega), Option.bind_some, Option.bind_some, awr_n (by omega), Option.bind_some, if_neg (by decide), ard_n hu41, Option.bind_some, awr_n hu41, Option.bind_some, ard_n hv41, Option.bind_some, awr_n hv41, Option.bind_some, ard_n hv41, Option.bind_some, ard_n hu41, Option.bind_some]
    have e1 : (dput (dput D 124 a 1) 127 a 1) 129 = D 129 := by rw [dput_nb _ (by decide), dput_nb _ (by decide)]
    rw [e1, dput_sn _ (fun e => huv e.symm), e1, w32_id (by omega) (by omega), w32_id (by omega) (by omega)]
    obtain ⟨D3, hD3⟩ : ∃ D3, D3 = dput (dput (dput (dput D 124 a 1) 127 a 1) 129 (P 9 a) (D 129 (P 9 a) + 1)) 129 (P 10 a) (D 129 (P 10 a) + 1) := ⟨_, rfl⟩
    rw [← hD3]
    have n1 : ∀ c : Nat, c ≠ 129 → c ≠ 127 → c ≠ 124 → D3 c = D c := fun c z1 z2 z3 => by rw [hD3, dput_nb _ z1, dput_nb _ z1, dput_nb _ z2, dput_nb _ z3]
    have n124 : ∀ b, D3 124 b = if b = a then 1 else D 124 b := fun b => by rw [hD3]; simp [dput_eq]
    have n127 : ∀ b, D3 127 b = if b = a then 1 else D 127 b := fun b => by rw [hD3]; simp [dput_eq]
    have n129 : ∀ k, D3 129 k = D 129 k + ed (P 9) (P 10) k a := fun k => by
      rw [hD3, dput_eq, dput_eq, e1]
      unfold ed
      by_cases z1 : k = P 10 a
      · subst z1; simp [huv]
      · by_cases z2 : k = P 9 a
        · subst z2
          have : ¬ P 10 a = P 9 a := fun e => huv e.symm
          simp [z1, this]
        · have : ¬ P 10 a = k := fun e => z1 e.symm
          have : ¬ P 9 a = k := fun e => z2 e.symm
          simp [*]
    have f3 : Fr [123, 124, 127, 128, 129, 130] D D3 := by rw [hD3]; exact (((Fr.rf.put (by simp)).put (by simp)).put (by simp)).put (by simp)
    rw [n1 128 (by decide) (by decide) (by decide), h1 _ hu, h1 _ hv, wp_bind]
    refine wp_mono (s_bind w (d.fr f3 (by decide)) hf) ?_
    rintro D' ⟨g1, g2⟩
    rw [wp_some]
    have gn : ∀ c : Nat, c ≠ 128 → D' c = D3 c := fun c z => g1 c (by simp [z])
    refine ⟨(hF.tr f3).tr (g1.mo (by simp)), fun k hk => ?_, fun k hk => ?_, fun k hk => ?_, fun b hb => ?_, fun b hb => ?_, fun b hb => ?_⟩
    · rw [g2 k hk, n1 128 (by decide) (by decide) (by decide), h1 k hk]
      simp only [kg]
      by_cases z : kg (P 9) (P 10) r k = kg (P 9) (P 10) r (P 10 a)
      · rw [if_pos z, if_pos (by rw [z])]
      · rw [if_neg z, if_neg (fun e => z (by omega))]
    · rw [gn 129 (by decide), n129, h2 k hk, etl]
      simp only [ls]; omega
    · rw [gn 130 (by decide), n1 130 (by decide) (by decide) (by decide), h3 k hk, erl]
    · rw [gn 124 (by decide), gn 127 (by decide), n124, n127, etl]
      by_cases hba : b = a
      · subst hba; simp
      · have hb : b ∈ r := (List.mem_cons.mp hb).resolve_left hba
        have := h4 b hb
        simp only [List.mem_cons, hba, false_or, if_false]
        exact this
    · rw [erl] at hb
      rw [gn 123 (by decide), n1 123 (by decide) (by decide) (by decide)]
      exact h5 b hb
    · have hb2 : ¬ (b = a ∨ b ∈ r) := fun q => hb (List.mem_cons.mpr q)
      have hba : b ≠ a := fun e => hb2 (Or.inl e)
      rw [gn 123 (by decide), n1 123 (by decide) (by decide) (by decide), gn 124 (by decide), n124, if_neg hba]
      exact h6 b (fun e => hb2 (Or.inr e))
