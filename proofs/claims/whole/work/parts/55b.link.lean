/-! ===== Chains.join: part, listArcs, link ===== -/
def CA (P : PG) (f : Nat) (l : List Nat) : Prop := l.Pairwise (· < ·) ∧ ∀ a, a ∈ l ↔ a < P 0 2 ∧ fn P a = f ∧ inn P a ∧ 0 < phi P a
def CLm (P : PG) (f : Nat) (m : List Nat) : Prop := ∃ l, CA P f l ∧ Ord id (phi P) l m
theorem CLm.mem {P : PG} {f : Nat} {m : List Nat} (h : CLm P f m) (a : Nat) : a ∈ m ↔ a < P 0 2 ∧ fn P a = f ∧ inn P a ∧ 0 < phi P a := by
  obtain ⟨l, hl, ho⟩ := h
  rw [ho.1.mem_iff]; exact hl.2 a
theorem CLm.nodup {P : PG} {f : Nat} {m : List Nat} (h : CLm P f m) : m.Nodup := by
  obtain ⟨l, hl, ho⟩ := h
  exact List.Nodup.perm (List.Pairwise.imp (fun h => Nat.ne_of_lt h) hl.1) ho.1.symm
theorem CLm.len {P : PG} (w : WF P) {f : Nat} {m : List Nat} (h : CLm P f m) : m.length ≤ 88 := by
  have := w.a88
  obtain ⟨l, hl, ho⟩ := h
  rw [ho.1.length_eq]
  exact Nat.le_trans (inc_len hl.1 (fun a ha => ((hl.2 a).mp ha).1)) this
theorem CLm.det {P : PG} {f : Nat} {m m' : List Nat} (h : CLm P f m) (h' : CLm P f m') : m = m' := by
  have hn := h.nodup; have hn' := h'.nodup
  have hp : m.Perm m' := (List.perm_ext_iff_of_nodup hn hn').mpr (fun a => by rw [h.mem, h'.mem])
  obtain ⟨l, hl, ho⟩ := h
  obtain ⟨l', hl', ho'⟩ := h'
  exact ord_det (l := m) ⟨List.Perm.refl _, ho.2⟩ ⟨hp.symm, ho'.2⟩
theorem CLm.blk {P : PG} (w : WF P) {f : Nat} {m : List Nat} (h : CLm P f m) {a : Nat} (ha : a ∈ m) : blk P f (P 9 a) ∧ blk P f (P 10 a) := by
  obtain ⟨h1, h2, h3, h4⟩ := (h.mem a).mp ha
  have hu := (w.uo h1).resolve_left h3.1
  have hv := (w.vo h1).resolve_left h3.2
  exact ⟨⟨hu.1, hu.2.trans h2⟩, hv.1, hv.2.trans h2⟩
theorem s_part {D : DT} {P : PG} (w : WF P) (d : DevP D 4 P) {f : Nat} (hf : f < P 0 0) : wp (m_X0_part (f : Int) D) (fun D' => Fr [137, 138, 139, 140] D D' ∧ ∀ b, blk P f b → D' 137 b = (b : Int) ∧ D' 138 b = -1 ∧ D' 139 b = 0 ∧ D' 140 b = 0) := by
  have h8 := w.f8; have h40 := w.b40
  unfold m_X0_part
  rw [wp_bind]
  refine wp_for (P 1 f) (fun k s => s.1 = (k : Int) ∧ Fr [137, 138, 139, 140] D s.2 ∧ ∀ b, (∃ k', k' < k ∧ mb P f k' = b) → s.2 137 b = (b : Int) ∧ s.2 138 b = -1 ∧ s.2 139 b = 0 ∧ s.2 140 b = 0) (Nat.zero_le _) ⟨rfl, Fr.rf, ?_⟩ ?_
  · rintro b ⟨k', h, _⟩; omega
  rintro k ⟨kk, D1⟩ hk ⟨h1, hF, hA⟩
  simp only at h1 hF hA
  subst h1
  have d1 := d.fr hF (by decide)
  unfold b_X0_part_2
  dsimp only
  rw [ard_n (by omega), Option.bind_some, d1.mem f hf, wp_ite]
  constructor
  rotate_left
  · intro q
    have : k = P 1 f := by omega
    subst this
    rw [wp_some, gd_r, wp_some]
    refine ⟨hF, fun b hb => ?_⟩
    obtain ⟨k', hk', ek⟩ := w.cov b hb.1
    rw [hb.2] at hk' ek
    exact hA b ⟨k', hk', ek⟩
  intro q
  have hk2 : k < P 1 f := by omega
  have hb := w.mbl f k hf hk2
  have hl := w.lst f hf
  rw [s_member w d1 hf hk2, Option.bind_some, awr_n (by omega), Option.bind_some, awr_n (by omega), Option.bind_some, awr_n (by omega), Option.bind_some, abit_0, Option.bind_some, awr_n (by omega), Option.bind_some, wp_some, gd_l]
  refine ⟨hk2, w32_succ (by omega), (((hF.put (by simp)).put (by simp)).put (by simp)).put (by simp), ?_⟩
  rintro b ⟨k', hk', e⟩
  by_cases e2 : b = mb P f k
  · subst e2; simp [dput_eq]
  · have : k' ≠ k := fun q => e2 (by rw [← e, q])
    obtain ⟨a1, a2, a3, a4⟩ := hA b ⟨k', by omega, e⟩
    simp [dput_eq, e2, a1, a2, a3, a4]
theorem s_clist {D : DT} {P : PG} (w : WF P) (d : DevP D 4 P) {f : Nat} (hf : f < P 0 0) (hD : DF P f D) : wp (m_X0_listArcs (f : Int) D) (fun t => Fr [136] D t.2 ∧ ∃ l, t.1 = ((l.length : Nat) : Int) ∧ CA P f l ∧ Row t.2 136 l) := by
  have h8 := w.f8; have h88 := w.a88
  unfold m_X0_listArcs
  rw [wp_bind]
  refine wp_for (P 1 f) (fun k s => s.2.1 = (k : Int) ∧ Fr [136] D s.2.2 ∧ ∃ l : List Nat, s.1 = (l.length : Int) ∧ l.Pairwise (· < ·) ∧ Row s.2.2 136 l ∧ ∀ a, a ∈ l ↔ (inn P a ∧ 0 < phi P a) ∧ ∃ k' i', k' < k ∧ i' < ac P (mb P f k') ∧ a = P 8 (mb P f k') + i') (Nat.zero_le _) ⟨rfl, Fr.rf, [], rfl, List.Pairwise.nil, Row.nil, ?_⟩ ?_
  · intro a; simp
  rintro k ⟨n, kk, D1⟩ hk ⟨h1, hF, l, hn, hinc, hrow, hmem⟩
  simp only at h1 hF hn hrow
  subst h1
  have d1 := d.fr hF (by decide)
  unfold b_X0_listArcs_4
  dsimp only
  rw [ard_n (by omega), Option.bind_some, d1.mem f hf, wp_ite]
  constructor
  rotate_left
  · intro q
    have : k = P 1 f := by omega
    subst this
    rw [wp_some, gd_r]
    dsimp only
    rw [wp_some]
    refine ⟨hF, l, hn, ⟨hinc, fun a => ?_⟩, hrow⟩
    rw [hmem a]
    constructor
    · rintro ⟨z1, z2⟩
      have := (al_iff w hf a).mpr (Or.inr z2)
      exact ⟨this.1, this.2, z1⟩
    · rintro ⟨z1, z2, z3, z4⟩
      refine ⟨⟨z3, z4⟩, ((al_iff w hf a).mp ⟨z1, z2⟩).resolve_left (fun e => ?_)⟩
      subst e
      exact z3.1 (w.afr a hf)
  intro q
  have hk2 : k < P 1 f := by omega
  have hb := w.mbl f k hf hk2
  have hbo := w.mbo f k hf hk2
  have b1 := w.ffl _ hb; have b2 := w.ffh _ hb
  rw [s_member w d1 hf hk2, Option.bind_some, wp_bind]
  refine wp_for (ac P (mb P f k)) (fun i s => s.2.1 = (i : Int) ∧ Fr [136] D s.2.2 ∧ ∃ l : List Nat, s.1 = (l.length : Int) ∧ l.Pairwise (· < ·) ∧ Row s.2.2 136 l ∧ ∀ a, a ∈ l ↔ (inn P a ∧ 0 < phi P a) ∧ ((∃ k' i', k' < k ∧ i' < ac P (mb P f k') ∧ a = P 8 (mb P f k') + i') ∨ ∃ i', i' < i ∧ a = P 8 (mb P f k) + i')) (Nat.zero_le _) ⟨rfl, hF, l, hn, hinc, hrow, fun a => by rw [hmem a]; simp⟩ ?_
  rintro i ⟨n2, ii, D2⟩ hi ⟨g1, hF2, l2, hn2, hinc2, hrow2, hmem2⟩
  simp only at g1 hF2 hn2 hrow2
  subst g1
  have d2 := d.fr hF2 (by decide)
  unfold b_X0_listArcs_31
  dsimp only
  rw [s_arcsOf w d2 hb, Option.bind_some, wp_ite]
  have hless : ∀ a ∈ l2, a < P 8 (mb P f k) + i := by
    intro a ha
    rcases ((hmem2 a).mp ha).2 with ⟨k', i', q1, q2, rfl⟩ | ⟨i', q1, rfl⟩
    · have := w.fmo _ _ (w.inc f k' k hf q1 hk2) hb
      omega
    · omega
  have hl2 := inc_len hinc2 hless
  have hacl := ac_le (P := P) (b := mb P f k)
  constructor
  rotate_left
  · intro q
    have : i = ac P (mb P f k) := by omega
    subst this
    rw [wp_some, gd_r]
    dsimp only
    rw [wp_some, gd_l]
    refine ⟨hk2, w32_succ (by have := w.lst f hf; have := w.b40; omega), hF2, l2, hn2, hinc2, hrow2, fun a => ?_⟩
    rw [hmem2 a]
    constructor
    · rintro ⟨z, ⟨k', i', q1, q2, e⟩ | ⟨i', q1, e⟩⟩
      · exact ⟨z, k', i', by omega, q2, e⟩
      · exact ⟨z, k, i', by omega, q1, e⟩
    · rintro ⟨z, k', i', q1, q2, e⟩
      by_cases hkk : k' = k
      · subst hkk; exact ⟨z, Or.inr ⟨i', q2, e⟩⟩
      · exact ⟨z, Or.inl ⟨k', i', by omega, q2, e⟩⟩
  intro q
  have hi2 : i < ac P (mb P f k) := by omega
  have hal : P 8 (mb P f k) + i < P 0 2 := by omega
  have hfna : fn P (P 8 (mb P f k) + i) = f := ((al_iff w hf _).mpr (Or.inr ⟨k, i, hk2, hi2, rfl⟩)).2
  have e123 : D2 123 (P 8 (mb P f k) + i) = phi P (P 8 (mb P f k) + i) := by rw [hF2 123 (by decide)]; exact (hD.1 _ hal hfna).1
  rw [wp_ite]
  constructor
  rotate_left
  · intro q2; omega
  intro q2
  have hz1 : i < 2147483647 := by omega
  have hz2 : l2.length < 2147483647 := by omega
  have hz3 : P 8 (mb P f k) + i < 2147483648 := by omega
  have hz4 : l2.length < 88 := by omega
  have hmb : mb P f k < 40 := by have := w.b40; omega
  rw [ard_n hmb, Option.bind_some, d2.fst _ hb, w32_nn hz3]
  have hskip : ¬ (inn P (P 8 (mb P f k) + i) ∧ 0 < phi P (P 8 (mb P f k) + i)) → i < ac P (mb P f k) ∧ w32 ((i : Int) + 1) = ((i + 1 : Nat) : Int) ∧ Fr [136] D D2 ∧ ∃ l : List Nat, n2 = (l.length : Int) ∧ l.Pairwise (· < ·) ∧ Row D2 136 l ∧ ∀ a, a ∈ l ↔ (inn P a ∧ 0 < phi P a) ∧ ((∃ k' i', k' < k ∧ i' < ac P (mb P f k') ∧ a = P 8 (mb P f k') + i') ∨ ∃ i', i' < i + 1 ∧ a = P 8 (mb P f k) + i') := by
    intro hno
    refine ⟨hi2, w32_succ hz1, hF2, l2, hn2, hinc2, hrow2, fun a => ?_⟩
    rw [hmem2 a]
    constructor
    · rintro ⟨z, z2 | ⟨i', q1, e⟩⟩
      · exact ⟨z, Or.inl z2⟩
      · exact ⟨z, Or.inr ⟨i', by omega, e⟩⟩
    · rintro ⟨z, z2 | ⟨i', q1, e⟩⟩
      · exact ⟨z, Or.inl z2⟩
      · by_cases hii : i' = i
        · subst hii; subst e; exact absurd z hno
        · exact ⟨z, Or.inr ⟨i', by omega, e⟩⟩
  rcases s_isInside w d2 hal with ⟨hin, e⟩ | ⟨hin, e⟩
  · rw [e, Option.bind_some, if_neg (by decide), ard_n (by omega), Option.bind_some, e123]
    by_cases hp : 0 < phi P (P 8 (mb P f k) + i)
    · rw [if_pos hp, hn2, awr_n hz4, Option.bind_some, Option.bind_some]
      dsimp only
      rw [wp_some, gd_l]
      refine ⟨hi2, w32_succ hz1, hF2.put (by simp), l2 ++ [P 8 (mb P f k) + i], w32_snoc hz2, inc_snoc hinc2 hless, hrow2.snoc rfl, fun a => ?_⟩
      rw [List.mem_append, hmem2 a, List.mem_singleton]
      constructor
      · rintro (⟨z, z2 | ⟨i', q1, e⟩⟩ | e)
        · exact ⟨z, Or.inl z2⟩
        · exact ⟨z, Or.inr ⟨i', by omega, e⟩⟩
        · subst e; exact ⟨⟨hin, hp⟩, Or.inr ⟨i, by omega, rfl⟩⟩
      · rintro ⟨z, z2 | ⟨i', q1, e5⟩⟩
        · exact Or.inl ⟨z, Or.inl z2⟩
        · by_cases hii : i' = i
          · subst hii; exact Or.inr e5
          · exact Or.inl ⟨z, Or.inr ⟨i', by omega, e5⟩⟩
    · rw [if_neg hp, Option.bind_some]
      dsimp only
      rw [wp_some, gd_l]
      exact hskip (fun z => hp z.2)
  · rw [e, Option.bind_some, if_pos rfl, Option.bind_some]
    dsimp only
    rw [wp_some, gd_l]
    exact hskip (fun z => hin z.1)
/-- what the class holds of chains while they grow -/
def DCh (P : PG) (f : Nat) (s : CS) (D : DT) : Prop := (∀ k, blk P f k → D 137 k = ((s.2 k : Nat) : Int)) ∧ ∀ h, blk P f h → Nxt D 138 (s.1 h)
theorem len40 {l : List Nat} (hn : l.Nodup) (h : ∀ k ∈ l, k < 40) : l.length ≤ 40 := by
  have := List.Nodup.length_le_of_subset hn (fun k hk => List.mem_range.mpr (h k hk))
  simpa using this
theorem s_link {D : DT} {P : PG} (w : WF P) (d : DevP D 4 P) {f : Nat} {r : List Nat} (hr : ∀ a ∈ r, blk P f (P 9 a) ∧ blk P f (P 10 a)) {a : Nat} (ha : a < P 0 2) (hab : blk P f (P 9 a) ∧ blk P f (P 10 a)) (hC : DCh P f (cst P r) D) : wp (m_X0_link (a : Int) D) (fun D' => Fr [137, 138] D D' ∧ DCh P f (cst P (a :: r)) D') := by
  have h88 := w.a88; have h40 := w.b40
  obtain ⟨hx, hy⟩ := hab
  have ci := ci_cst (P := P) (r := r)
  have hbl := fun {k h : Nat} => cst_blk (P := P) (f := f) hr k h
  obtain ⟨hC1, hC2⟩ := hC
  have hX : blk P f ((cst P r).2 (P 9 a)) := (hbl (ci.1 (P 9 a))).mp hx
  have hlt : ∀ h, blk P f h → ∀ k ∈ (cst P r).1 h, k < 40 := fun h hh k hk => by
    have := ((hbl hk).mpr hh).1
    omega
  have hx40 : P 9 a < 40 := by have := hx.1; omega
  have hy40 : P 10 a < 40 := by have := hy.1; omega
  have hlast := nxt_last (hC2 _ hX) (ci.2.2.1 _) (ci.1 (P 9 a)) (hlt _ hX)
  have hno : ¬ cjo P (cst P r) a → Fr [137, 138] D D ∧ DCh P f (cst P (a :: r)) D := by
    intro hn
    refine ⟨Fr.rf, ?_⟩
    unfold cst
    rw [if_neg hn]
    exact ⟨hC1, hC2⟩
  unfold m_X0_link
  rw [ard_n (by omega), Option.bind_some, d.fro a ha, nz_ne (by omega), ard_n (by omega), Option.bind_some, d.to a ha, nz_ne (by omega), ard_n hx40, Option.bind_some]
  by_cases h1 : D 138 (P 9 a) = -1
  rotate_left
  · rw [if_neg h1, Option.bind_some, ard_n hy40, Option.bind_some, hC1 _ hy]
    have : ¬ cjo P (cst P r) a := fun z => h1 (hlast.mpr z.1)
    by_cases h2 : (cst P r).2 (P 10 a) = P 10 a
    · rw [if_pos (by rw [h2]), ard_n hx40, Option.bind_some]
      by_cases h3 : D 137 (P 9 a) = ((P 10 a : Nat) : Int)
      · rw [if_pos h3, Option.bind_some, if_pos rfl, wp_some]; exact hno this
      · rw [if_neg h3, Option.bind_some, if_pos rfl, wp_some]; exact hno this
    · rw [if_neg (by omega), Option.bind_some, if_pos rfl, wp_some]; exact hno this
  rw [if_pos h1, Option.bind_some, ard_n hy40, Option.bind_some, hC1 _ hy]
  by_cases h2 : (cst P r).2 (P 10 a) = P 10 a
  rotate_left
  · have : ¬ cjo P (cst P r) a := fun z => h2 z.2.1
    rw [if_neg (by omega), Option.bind_some, if_neg (by decide), if_pos rfl, wp_some]; exact hno this
  rw [if_pos (by rw [h2]), ard_n hx40, Option.bind_some, hC1 _ hx]
  by_cases h3 : (cst P r).2 (P 9 a) = P 10 a
  · have : ¬ cjo P (cst P r) a := fun z => z.2.2.1 h3
    rw [if_pos (by rw [h3]), Option.bind_some, if_neg (by decide), if_pos rfl, wp_some]; exact hno this
  rw [if_neg (by omega), Option.bind_some, if_neg (by decide), if_neg (by decide), s_isEntry w d hy.1, Option.bind_some]
  by_cases h4 : mb P (P 4 (P 10 a)) 0 = P 10 a
  · have : ¬ cjo P (cst P r) a := fun z => z.2.2.2 h4
    rw [if_pos h4, if_neg (by decide), wp_some]; exact hno this
  rw [if_neg h4, if_pos rfl, awr_n hx40, Option.bind_some, wp_bind]
  have hjo : cjo P (cst P r) a := ⟨hlast.mp h1, h2, h3, h4⟩
  obtain ⟨D9, hD9⟩ : ∃ D9, D9 = dput D 138 (P 9 a) ((P 10 a : Nat) : Int) := ⟨_, rfl⟩
  rw [← hD9]
  have hF9 : Fr [137, 138] D D9 := by rw [hD9]; exact Fr.rf.put (by simp)
  have e137 : D9 137 = D 137 := by rw [hD9, dput_nb _ (by decide)]
  have hxB : P 9 a ∉ (cst P r).1 (P 10 a) := fun z => h3 (ci.2.1 _ _ z)
  have hnB : Nxt D9 138 ((cst P r).1 (P 10 a)) := (hC2 _ hy).cg (fun k hk => by rw [hD9, dput_sn _ (fun e : k = P 9 a => hxB (by rw [← e]; exact hk))])
  have hB40 := hlt _ hy
  have hBl := len40 (ci.2.2.1 (P 10 a)) hB40
  have hfin : ∀ D', Fr [137] D9 D' → (∀ k, D' 137 k = if k ∈ (cst P r).1 (P 10 a) then (((cst P r).2 (P 9 a) : Nat) : Int) else D9 137 k) → Fr [137, 138] D D' ∧ DCh P f (cst P (a :: r)) D' := by
    intro D' f1 f2
    have e138 : D' 138 = D9 138 := f1 138 (by decide)
    refine ⟨hF9.tr (f1.mo (by simp)), ?_⟩
    unfold cst
    rw [if_pos hjo]
    refine ⟨fun k hk => ?_, fun h hh => ?_⟩
    · rw [f2 k, e137, hC1 k hk]
      simp only [cjn]
      by_cases z : (cst P r).2 k = P 10 a
      · rw [if_pos z, if_pos (by rw [← z]; exact ci.1 k)]
      · rw [if_neg z, if_neg (fun q => z (ci.2.1 _ _ q))]
    · refine Nxt.cg (D := D9) ?_ (fun k _ => by rw [e138])
      simp only [cjn]
      split
      · rw [hD9]
        refine nxt_join (hC2 _ hX) (hC2 _ hy) ?_ hjo.1 (ci.hd h2) (by omega)
        refine List.nodup_append.mpr ⟨ci.2.2.1 _, ci.2.2.1 _, fun a' ha' b hb e => ?_⟩
        subst e
        exact h3 ((ci.2.1 _ _ ha').symm.trans (ci.2.1 _ _ hb))
      · rename_i z1
        split
        · intro i k hk; simp at hk
        · rename_i z2
          exact (hC2 h hh).cg (fun k hk => by rw [hD9, dput_sn _ (fun e => z1 (by rw [← e]; exact (ci.2.1 _ _ hk).symm))])
  refine wp_for ((cst P r).1 (P 10 a)).length (fun i s => s.2.1 = (i : Int) ∧ s.1 = nz 40 ((((cst P r).1 (P 10 a))[i]?).getD 40) ∧ Fr [137] D9 s.2.2 ∧ ∀ k, s.2.2 137 k = if k ∈ ((cst P r).1 (P 10 a)).take i then (((cst P r).2 (P 9 a) : Nat) : Int) else D9 137 k) (Nat.zero_le _) ⟨rfl, ?_, Fr.rf, fun k => by simp⟩ ?_
  · rw [← List.head?_eq_getElem?, ci.hd h2]
    show ((P 10 a : Nat) : Int) = nz 40 (P 10 a)
    rw [nz_ne (by omega)]
  rintro i ⟨bk, ii, D1⟩ hi ⟨g1, g2, g3, g4⟩
  simp only at g1 g2 g3 g4
  subst g1
  unfold b_X0_link_99
  dsimp only
  by_cases hil : i < ((cst P r).1 (P 10 a)).length
  · have hbk : ((cst P r).1 (P 10 a))[i]? = some ((cst P r).1 (P 10 a))[i] := List.getElem?_eq_getElem hil
    have hbm := List.getElem_mem hil
    have hb40 := hB40 _ hbm
    rw [hbk] at g2
    simp only [Option.getD_some] at g2
    rw [nz_ne (by omega)] at g2
    subst g2
    have hx1 : D1 137 (P 9 a) = (((cst P r).2 (P 9 a) : Nat) : Int) := by
      rw [g4, if_neg (fun z => hxB (List.mem_of_mem_take z)), e137, hC1 _ hx]
    rw [if_pos (by omega), if_neg (by omega), ard_n hx40, Option.bind_some, hx1, awr_n hb40, Option.bind_some, ard_n hb40, Option.bind_some, wp_some, gd_l]
    refine ⟨hil, w32_succ (by omega), ?_, g3.put (by simp), fun k => ?_⟩
    · dsimp only
      rw [dput_nb _ (by decide), g3 138 (by decide), hnB i _ hbk]
    · show dput D1 137 _ _ 137 k = _
      rw [List.take_succ_eq_append_getElem hil, dput_eq, g4 k]
      by_cases z : k = ((cst P r).1 (P 10 a))[i]
      · rw [if_pos ⟨rfl, z⟩, if_pos (List.mem_append.mpr (Or.inr (by rw [z]; exact List.mem_singleton.mpr rfl)))]
      · rw [if_neg (fun q => z q.2)]
        by_cases z2 : k ∈ ((cst P r).1 (P 10 a)).take i
        · rw [if_pos z2, if_pos (List.mem_append.mpr (Or.inl z2))]
        · rw [if_neg z2, if_neg (fun q => (List.mem_append.mp q).elim z2 (fun q => z (List.mem_singleton.mp q)))]
  · have e : i = ((cst P r).1 (P 10 a)).length := by omega
    subst e
    rw [List.getElem?_eq_none (Nat.le_refl _)] at g2
    have g2 : bk = -1 := g2
    rw [List.take_length] at g4
    rw [if_pos g2]
    split <;> (rw [wp_some, gd_r, wp_some]; exact hfin D1 g3 g4)
