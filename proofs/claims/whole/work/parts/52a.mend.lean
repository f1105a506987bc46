/-! ===== Flows.mend: the arcs of a function, listed and sorted ===== -/
def ArL (P : PG) (f : Nat) (l : List Nat) : Prop := l.Pairwise (· < ·) ∧ ∀ a, a ∈ l ↔ a < P 0 2 ∧ fn P a = f
theorem inc_len {l : List Nat} {m : Nat} (h : l.Pairwise (· < ·)) (hm : ∀ a ∈ l, a < m) : l.length ≤ m := by
  have h1 : l.Nodup := List.Pairwise.imp (fun h => Nat.ne_of_lt h) h
  have := List.Nodup.length_le_of_subset h1 (fun a ha => List.mem_range.mpr (hm a ha))
  simpa using this
theorem inc_snoc {l : List Nat} {x : Nat} (h : l.Pairwise (· < ·)) (hx : ∀ a ∈ l, a < x) : (l ++ [x]).Pairwise (· < ·) :=
  List.pairwise_append.mpr ⟨h, List.pairwise_singleton _ _, fun a ha b hb => by rw [List.mem_singleton.mp hb]; exact hx a ha⟩
theorem ArL.len {P : PG} (w : WF P) {f : Nat} {l : List Nat} (h : ArL P f l) : l.length ≤ 88 := by
  have := w.a88
  exact Nat.le_trans (inc_len h.1 (fun a ha => ((h.2 a).mp ha).1)) this
theorem DevP.fr {D D' : DT} {P : PG} {S : List Nat} (d : DevP D 4 P) (h : Fr S D D') (hs : S.all (fun c => decide (c < 4 ∨ 17 < c)) = true) : DevP D' 4 P :=
  d.cg (fun c h1 h2 => h c (fun q => by
    have := List.all_eq_true.mp hs c q
    have := of_decide_eq_true this
    omega))
/-- a function's arcs are its own from outside and its blocks' -/
theorem al_iff {P : PG} (w : WF P) {f : Nat} (hf : f < P 0 0) (a : Nat) : (a < P 0 2 ∧ fn P a = f) ↔ a = f ∨ ∃ k i, k < P 1 f ∧ i < ac P (mb P f k) ∧ a = P 8 (mb P f k) + i := by
  constructor
  · rintro ⟨h1, h2⟩
    unfold fn at h2
    split at h2
    · exact Or.inl h2
    · rename_i q
      obtain ⟨i, hi, e⟩ := w.arc a (by omega) h1
      obtain ⟨k, hk, ek⟩ := w.cov (P 9 a) (w.arb a (by omega) h1)
      rw [h2] at hk ek
      exact Or.inr ⟨k, i, hk, by rw [ek]; exact hi, by rw [ek]; exact e⟩
  · rintro (rfl | ⟨k, i, hk, hi, rfl⟩)
    · exact ⟨by have := w.fa; omega, if_pos hf⟩
    · have hb := w.mbl f k hf hk
      have h1 := w.ffl _ hb
      have h2 := w.ffh _ hb
      refine ⟨by omega, ?_⟩
      unfold fn
      rw [if_neg (by omega), w.fro _ i hb hi, w.mbo f k hf hk]
theorem s_mlist {D : DT} {P : PG} (w : WF P) (d : DevP D 4 P) {f : Nat} (hf : f < P 0 0) : wp (m_X2_listArcs (f : Int) D) (fun t => Fr [126] D t.2 ∧ ∃ l, t.1 = ((l.length : Nat) : Int) ∧ ArL P f l ∧ Row t.2 126 l) := by
  have h8 := w.f8; have h88 := w.a88
  unfold m_X2_listArcs
  rw [awr_v (i := 0) 0 rfl (by decide), Option.bind_some, wp_bind, w32_01]
  refine wp_for (P 1 f) (fun k s => s.2.1 = (k : Int) ∧ Fr [126] D s.2.2 ∧ ∃ l : List Nat, s.1 = (l.length : Int) ∧ l.Pairwise (· < ·) ∧ Row s.2.2 126 l ∧ ∀ a, a ∈ l ↔ a = f ∨ ∃ k' i', k' < k ∧ i' < ac P (mb P f k') ∧ a = P 8 (mb P f k') + i') (Nat.zero_le _) ⟨rfl, Fr.rf.put (by simp), [f], rfl, List.pairwise_singleton _ _, ?_, ?_⟩ ?_
  · have := Row.snoc (D := D) (c := 126) Row.nil (n := 0) (x := f) rfl
    exact this
  · intro a; simp
  rintro k ⟨n, kk, D1⟩ hk ⟨h1, hF, l, hn, hinc, hrow, hmem⟩
  simp only at h1 hF hn hrow
  subst h1
  have d1 := d.fr hF (by decide)
  unfold b_X2_listArcs_14
  dsimp only
  rw [ard_n (by omega), Option.bind_some, d1.mem f hf, wp_ite]
  constructor
  rotate_left
  · intro q
    have : k = P 1 f := by omega
    subst this
    rw [wp_some, gd_r]
    dsimp only
    rw [wp_some]
    exact ⟨hF, l, hn, ⟨hinc, fun a => by rw [al_iff w hf]; exact hmem a⟩, hrow⟩
  intro q
  have hk2 : k < P 1 f := by omega
  have hb := w.mbl f k hf hk2
  have b1 := w.ffl _ hb; have b2 := w.ffh _ hb
  rw [s_member w d1 hf hk2, Option.bind_some, wp_bind]
  refine wp_for (ac P (mb P f k)) (fun i s => s.2.1 = (i : Int) ∧ Fr [126] D s.2.2 ∧ ∃ l : List Nat, s.1 = (l.length : Int) ∧ l.Pairwise (· < ·) ∧ Row s.2.2 126 l ∧ ∀ a, a ∈ l ↔ (a = f ∨ ∃ k' i', k' < k ∧ i' < ac P (mb P f k') ∧ a = P 8 (mb P f k') + i') ∨ ∃ i', i' < i ∧ a = P 8 (mb P f k) + i') (Nat.zero_le _) ⟨rfl, hF, l, hn, hinc, hrow, fun a => by rw [hmem a]; simp⟩ ?_
  rintro i ⟨n2, ii, D2⟩ hi ⟨g1, hF2, l2, hn2, hinc2, hrow2, hmem2⟩
  simp only at g1 hF2 hn2 hrow2
  subst g1
  have d2 := d.fr hF2 (by decide)
  unfold b_X2_listArcs_41
  dsimp only
  rw [s_arcsOf w d2 hb, Option.bind_some, wp_ite]
  have hless : ∀ a ∈ l2, a < P 8 (mb P f k) + i := by
    intro a ha
    rcases (hmem2 a).mp ha with (rfl | ⟨k', i', q1, q2, rfl⟩) | ⟨i', q1, rfl⟩
    · omega
    · have := w.fmo _ _ (w.inc f k' k hf q1 hk2) hb
      omega
    · omega
  have hl2 := inc_len hinc2 hless
  have hacl := ac_le (P := P) (b := mb P f k)
  constructor
  rotate_left
  · intro q
    have : i = ac P (mb P f k) := by omega
    subst this
    rw [wp_some, gd_r]
    dsimp only
    rw [wp_some, gd_l]
    refine ⟨hk2, w32_succ (by have := w.lst f hf; have := w.b40; omega), hF2, l2, hn2, hinc2, hrow2, fun a => ?_⟩
    rw [hmem2 a]
    constructor
    · rintro ((e | ⟨k', i', q1, q2, e⟩) | ⟨i', q1, e⟩)
      · exact Or.inl e
      · exact Or.inr ⟨k', i', by omega, q2, e⟩
      · exact Or.inr ⟨k, i', by omega, q1, e⟩
    · rintro (e | ⟨k', i', q1, q2, e⟩)
      · exact Or.inl (Or.inl e)
      · by_cases hkk : k' = k
        · subst hkk; exact Or.inr ⟨i', q2, e⟩
        · exact Or.inl (Or.inr ⟨k', i', by omega, q2, e⟩)
  intro q
  have hi2 : i < ac P (mb P f k) := by omega
  rw [wp_ite]
  constructor
  rotate_left
  · intro q2; omega
  intro q2
  rw [ard_n (by have := w.b40; omega), Option.bind_some, d2.fst _ hb, hn2, awr_n (by omega), Option.bind_some, wp_some, gd_l]
  have z1 : i < 2147483647 := by omega
  have z2 : l2.length < 2147483647 := by omega
  have ew : w32 (((P 8 (mb P f k) : Nat) : Int) + (i : Int)) = ((P 8 (mb P f k) + i : Nat) : Int) := by exact w32_nn (by omega)
  refine ⟨hi2, w32_succ z1, hF2.put (by simp), l2 ++ [P 8 (mb P f k) + i], w32_snoc z2, inc_snoc hinc2 hless, ?_, fun a => ?_⟩
  · show Row (dput D2 126 l2.length _) 126 _
    rw [ew]
    exact hrow2.snoc rfl
  · clear ew
    rw [List.mem_append, hmem2 a, List.mem_singleton]
    constructor
    · rintro ((e | e) | e)
      · exact Or.inl e
      · obtain ⟨i', q1, e⟩ := e
        exact Or.inr ⟨i', by omega, e⟩
      · exact Or.inr ⟨i, by omega, e⟩
    · rintro (e | ⟨i', q1, e⟩)
      · exact Or.inl (Or.inl e)
      · by_cases hii : i' = i
        · subst hii; exact Or.inr e
        · exact Or.inl (Or.inr ⟨i', by omega, e⟩)
