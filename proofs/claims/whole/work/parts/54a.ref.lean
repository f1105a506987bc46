/-! ===== what the reference reads of a program ===== -/
theorem rd {D : DT} {x : Int} (k : Nat) (hx : x = (k : Int)) (h : k < 4864) : ard D 188 4864 (w32 x) = some (D 188 k) := ard_v k (by rw [hx, w32_id (by omega) (by omega)]) h
theorem wr {D : DT} {x v : Int} (k : Nat) (hx : x = (k : Int)) (h : k < 4864) : awr D 188 4864 (w32 x) v = some (dput D 188 k v) := awr_v k (by rw [hx, w32_id (by omega) (by omega)]) h
theorem r_funs {D : DT} {P : PG} (r : RefP D 0 P) : m_X12_funs D = some ((P 0 0 : Nat) : Int) := by
  unfold m_X12_funs; rw [ard_v (i := 0) (0 + 0) rfl (by decide), Option.bind_some, r.s0]
theorem r_blocks {D : DT} {P : PG} (r : RefP D 0 P) : m_X12_blocks D = some ((P 0 1 : Nat) : Int) := by
  unfold m_X12_blocks; rw [ard_v (i := 1) (0 + 1) rfl (by decide), Option.bind_some, r.s1]
theorem r_arcs {D : DT} {P : PG} (r : RefP D 0 P) : m_X12_arcs D = some ((P 0 2 : Nat) : Int) := by
  unfold m_X12_arcs; rw [ard_v (i := 2) (0 + 2) rfl (by decide), Option.bind_some, r.s2]
theorem r_funOf {D : DT} {P : PG} (w : WF P) (r : RefP D 0 P) {b : Nat} (hb : b < P 0 1) : m_X12_funOf (b : Int) D = some ((P 4 b : Nat) : Int) := by
  have := w.b40
  unfold m_X12_funOf; rw [rd (0 + 10 + b) (by omega) (by omega), Option.bind_some, r.own b hb]
theorem r_endOf {D : DT} {P : PG} (w : WF P) (r : RefP D 0 P) {b : Nat} (hb : b < P 0 1) : m_X12_endOf (b : Int) D = some ((P 6 b : Nat) : Int) := by
  have := w.b40
  unfold m_X12_endOf; rw [rd (0 + 210 + b) (by omega) (by omega), Option.bind_some, r.en b hb]
theorem r_firstArc {D : DT} {P : PG} (w : WF P) (r : RefP D 0 P) {b : Nat} (hb : b < P 0 1) : m_X12_firstArc (b : Int) D = some ((P 8 b : Nat) : Int) := by
  have := w.b40
  unfold m_X12_firstArc; rw [rd (0 + 250 + b) (by omega) (by omega), Option.bind_some, r.fst b hb]
theorem r_arcsOf {D : DT} {P : PG} (w : WF P) (r : RefP D 0 P) {b : Nat} (hb : b < P 0 1) : m_X12_arcsOf (b : Int) D = some ((ac P b : Nat) : Int) := by
  unfold m_X12_arcsOf ac
  rw [r_endOf w r hb, Option.bind_some]
  by_cases h : P 6 b = 2
  · simp [h]
  · have : ¬ ((P 6 b : Nat) : Int) = 2 := by omega
    simp [h, this]
theorem mb_least {P : PG} (w : WF P) {b : Nat} (hb : b < P 0 1) : mb P (P 4 b) 0 ≤ b := by
  obtain ⟨k, hk, e⟩ := w.cov b hb
  by_cases h : k = 0
  · subst h; omega
  · have := w.inc (P 4 b) 0 k (w.own b hb) (by omega) hk
    omega
theorem r_entryOf {D : DT} {P : PG} (w : WF P) (r : RefP D 0 P) {f : Nat} (hf : f < P 0 0) : m_X12_entryOf (f : Int) D = some ((mb P f 0 : Nat) : Int) := by
  have h40 := w.b40
  have hm := w.mbl f 0 hf (w.mem f hf)
  have ho := w.mbo f 0 hf (w.mem f hf)
  apply wp_eq
  unfold m_X12_entryOf
  rw [wp_bind]
  refine wp_for (mb P f 0) (fun j s => s = (j : Int)) (Nat.zero_le _) rfl ?_
  rintro j s hj rfl
  unfold b_X12_entryOf_2
  rw [r_funOf w r (by omega), Option.bind_some, wp_ite]
  constructor
  · intro e
    have e2 : P 4 j = f := by omega
    have := mb_least w (b := j) (by omega)
    rw [e2] at this
    rw [wp_some, gd_r, wp_some]; omega
  · intro e
    have hne : j ≠ mb P f 0 := fun q => e (by rw [q, ho])
    rw [wp_some, gd_l]
    exact ⟨by omega, w32_succ (by omega)⟩
theorem r_isEntry {D : DT} {P : PG} (w : WF P) (r : RefP D 0 P) {b : Nat} (hb : b < P 0 1) : m_X12_isEntry (b : Int) D = some (if mb P (P 4 b) 0 = b then 1 else 0) := by
  unfold m_X12_isEntry
  rw [r_funOf w r hb, Option.bind_some, r_entryOf w r (w.own b hb), Option.bind_some]
  by_cases h : mb P (P 4 b) 0 = b
  · simp [h]
  · have : ¬ ((mb P (P 4 b) 0 : Nat) : Int) = (b : Int) := by omega
    simp [h, this]
theorem r_at {D : DT} {x : Nat} : m_X12_at (nz 40 x) D = some (x : Int) := by
  unfold m_X12_at nz
  by_cases h : x = 40
  · subst h; rfl
  · rw [if_neg h, if_neg (by omega)]
theorem r_whole {D : DT} {x : Int} : m_X12_whole x D = some (if x < 0 then 0 else x) := by
  unfold m_X12_whole; split <;> rfl
theorem r_from {D : DT} {P : PG} (w : WF P) (r : RefP D 0 P) {a : Nat} (ha : a < P 0 2) : ard D 188 4864 (w32 (290 + (a : Int))) = some (nz 40 (P 9 a)) := by
  have := w.a88
  rw [rd (0 + 290 + a) (by omega) (by omega), r.fro a ha]
theorem r_to {D : DT} {P : PG} (w : WF P) (r : RefP D 0 P) {a : Nat} (ha : a < P 0 2) : ard D 188 4864 (w32 (380 + (a : Int))) = some (nz 40 (P 10 a)) := by
  have := w.a88
  rw [rd (0 + 380 + a) (by omega) (by omega), r.to a ha]
theorem r_cnt {D : DT} {P : PG} (w : WF P) (r : RefP D 0 P) {a : Nat} (ha : a < P 0 2) : ard D 188 4864 (w32 (470 + (a : Int))) = some ((P 11 a : Nat) : Int) := by
  have := w.a88
  rw [rd (0 + 470 + a) (by omega) (by omega), r.cnt a ha]
theorem r_funOfArc {D : DT} {P : PG} (w : WF P) (r : RefP D 0 P) {a : Nat} (ha : a < P 0 2) : m_X12_funOfArc (a : Int) D = some ((fn P a : Nat) : Int) := by
  unfold m_X12_funOfArc fn
  rw [r_funs r, Option.bind_some]
  by_cases h : a < P 0 0
  · rw [if_pos (by omega), if_pos h]
  · have hb := w.arb a (by omega) ha
    have h40 := w.b40
    rw [if_neg (by omega), if_neg h, r_from w r ha, Option.bind_some, nz_ne (by omega), r_funOf w r hb, Option.bind_some]
/-! the one that is asked for, step by step -/
theorem sel_0 {C : Nat → Prop} {rk : Nat → Nat} {key : Nat → Int} {lo : Nat} : Sel (fun a => lo ≤ a ∧ a < lo ∧ C a) rk key (-1) := Or.inl ⟨rfl, fun a h => by omega⟩
theorem sel_no {C : Nat → Prop} {key : Nat → Int} {lo n : Nat} {r : Int} (h : Sel (fun a => lo ≤ a ∧ a < n ∧ C a) id key r) (hn : ¬ C n) : Sel (fun a => lo ≤ a ∧ a < n + 1 ∧ C a) id key r := by
  have e : ∀ a, (lo ≤ a ∧ a < n + 1 ∧ C a) → (lo ≤ a ∧ a < n ∧ C a) := fun a ha => by
    by_cases q : a = n
    · subst q; exact absurd ha.2.2 hn
    · exact ⟨ha.1, by omega, ha.2.2⟩
  rcases h with ⟨h1, h2⟩ | ⟨m, h1, h2, h3⟩
  · exact Or.inl ⟨h1, fun a ha => h2 a (e a ha)⟩
  · exact Or.inr ⟨m, h1, ⟨h2.1, by omega, h2.2.2⟩, fun a ha hne => h3 a (e a ha) hne⟩
theorem sel_yes {C : Nat → Prop} {key : Nat → Int} {lo n : Nat} {r : Int} (h : Sel (fun a => lo ≤ a ∧ a < n ∧ C a) id key r) (hlo : lo ≤ n) (hn : C n) (hr : r < 0 ∨ ∃ m : Nat, r = m ∧ key m < key n) : Sel (fun a => lo ≤ a ∧ a < n + 1 ∧ C a) id key (n : Int) := by
  refine Or.inr ⟨n, rfl, ⟨hlo, by omega, hn⟩, fun a ha hne => ?_⟩
  have ha2 : lo ≤ a ∧ a < n ∧ C a := ⟨ha.1, by omega, ha.2.2⟩
  rcases h with ⟨h1, h2⟩ | ⟨m, h1, h2, h3⟩
  · exact absurd ha2 (h2 a)
  · rcases hr with hr | ⟨m', e, hr⟩
    · omega
    · have e2 : m' = m := by omega
      subst e2
      by_cases q : a = m'
      · subst q; exact Or.inl hr
      · have := h3 a ha2 q
        unfold bf at *; omega
theorem sel_keep {C : Nat → Prop} {key : Nat → Int} {lo n m : Nat} (h : Sel (fun a => lo ≤ a ∧ a < n ∧ C a) id key (m : Int)) (hn : C n) (hr : key n ≤ key m) : Sel (fun a => lo ≤ a ∧ a < n + 1 ∧ C a) id key (m : Int) := by
  rcases h with ⟨h1, h2⟩ | ⟨m', h1, h2, h3⟩
  · omega
  · have e2 : m = m' := by omega
    subst e2
    refine Or.inr ⟨m, rfl, ⟨h2.1, by omega, h2.2.2⟩, fun a ha hne => ?_⟩
    by_cases q : a = n
    · subst q
      have := h2.2.1
      unfold bf; simp only [id]; omega
    · exact h3 a ⟨ha.1, by omega, ha.2.2⟩ hne
theorem sel_at {C : Nat → Prop} {rk : Nat → Nat} {key : Nat → Int} {r : Int} (h : Sel C rk key r) (hr : ¬ r < 0) : ∃ m : Nat, r = m ∧ C m := by
  rcases h with ⟨h1, _⟩ | ⟨m, h1, h2, _⟩
  · omega
  · exact ⟨m, h1, h2⟩
theorem r_nextByCount {D : DT} {P : PG} (w : WF P) (r : RefP D 0 P) {f : Nat} : wp (m_X12_nextByCount (f : Int) D) (fun x => Sel (fun a => a < P 0 2 ∧ D 194 a = 0 ∧ fn P a = f) id (fun a => ((P 11 a : Nat) : Int)) x) := by
  have h88 := w.a88
  unfold m_X12_nextByCount
  rw [wp_bind]
  refine wp_for (P 0 2) (fun j s => s.2 = (j : Int) ∧ Sel (fun a => 0 ≤ a ∧ a < j ∧ (D 194 a = 0 ∧ fn P a = f)) id (fun a => ((P 11 a : Nat) : Int)) s.1) (Nat.zero_le _) ⟨rfl, sel_0⟩ ?_
  rintro j ⟨x, jj⟩ hj ⟨h1, h2⟩
  simp only at h1 h2
  subst h1
  unfold b_X12_nextByCount_4
  dsimp only
  rw [r_arcs r, Option.bind_some, wp_ite]
  constructor
  rotate_left
  · intro q
    have : j = P 0 2 := by omega
    subst this
    rw [wp_some, gd_r, wp_some]
    have e : (fun a => 0 ≤ a ∧ a < P 0 2 ∧ (D 194 a = 0 ∧ fn P a = f)) = (fun a => a < P 0 2 ∧ D 194 a = 0 ∧ fn P a = f) := by funext a; simp
    rw [← e]; exact h2
  intro q
  have hj2 : j < P 0 2 := by omega
  have hw : w32 ((j : Int) + 1) = ((j + 1 : Nat) : Int) := w32_succ (by omega)
  rw [hw]
  clear hw
  rw [ard_n (by omega), Option.bind_some, wp_bind]
  have key : ∀ x', Sel (fun a => 0 ≤ a ∧ a < j + 1 ∧ (D 194 a = 0 ∧ fn P a = f)) id (fun a => ((P 11 a : Nat) : Int)) x' → wp (some (Sum.inl (β := Int) (x', ((j + 1 : Nat) : Int)))) (fun t => gd t (fun s' => j < P 0 2 ∧ s'.2 = ((j + 1 : Nat) : Int) ∧ Sel (fun a => 0 ≤ a ∧ a < j + 1 ∧ (D 194 a = 0 ∧ fn P a = f)) id (fun a => ((P 11 a : Nat) : Int)) s'.1) (fun r => wp (some r) fun x => Sel (fun a => a < P 0 2 ∧ D 194 a = 0 ∧ fn P a = f) id (fun a => ((P 11 a : Nat) : Int)) x)) := by
    intro x' hx
    rw [wp_some, gd_l]
    exact ⟨hj2, rfl, hx⟩
  rw [wp_ite]
  constructor
  rotate_left
  · intro e
    rw [wp_some]
    exact key x (sel_no h2 (fun z => e z.1))
  intro e
  rw [r_funOfArc w r hj2, Option.bind_some, wp_ite]
  constructor
  rotate_left
  · intro e2
    rw [wp_some]
    exact key x (sel_no h2 (fun z => e2 (by rw [z.2])))
  intro e2
  have hC : D 194 j = 0 ∧ fn P j = f := ⟨e, by omega⟩
  rw [wp_ite]
  constructor
  · intro e3
    rw [wp_some]
    exact key j (sel_yes h2 (Nat.zero_le _) hC (Or.inl e3))
  intro e3
  obtain ⟨m, rfl, hm⟩ := sel_at h2 e3
  rw [r_cnt w r hj2, Option.bind_some, r_cnt w r (by omega), Option.bind_some, wp_ite]
  constructor
  · intro e4
    rw [wp_some]
    exact key j (sel_yes h2 (Nat.zero_le _) hC (Or.inr ⟨m, rfl, e4⟩))
  · intro e4
    rw [wp_some]
    exact key m (sel_keep h2 hC (by omega))
