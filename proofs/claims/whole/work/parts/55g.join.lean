/-! ===== CHAINS stand to an end ===== -/
theorem sel_ex {rk : Nat → Nat} {key : Nat → Int} : ∀ (N : Nat) (C : Nat → Prop), (∀ a, C a → a < N) → (∀ a b, C a → C b → a ≠ b → rk a ≠ rk b) → ∃ r, Sel C rk key r
  | 0, C, h, _ => ⟨-1, Or.inl ⟨rfl, fun a ha => by have := h a ha; omega⟩⟩
  | N + 1, C, h, hr => by
    obtain ⟨r, hR⟩ := sel_ex N (fun a => C a ∧ a < N) (fun a ha => ha.2) (fun a b ha hb => hr a b ha.1 hb.1)
    have hlt : ∀ a, C a → a ≠ N → a < N := fun a ha hn => by have := h a ha; omega
    by_cases hN : C N
    · rcases hR with ⟨e, z⟩ | ⟨m, e, z1, z2⟩
      · refine ⟨N, Or.inr ⟨N, rfl, hN, fun a ha hne => absurd ⟨ha, hlt a ha hne⟩ (z a)⟩⟩
      · have hmN : m ≠ N := by have := z1.2; omega
        have hrk := hr m N z1.1 hN hmN
        by_cases hb : bf rk key N m
        · refine ⟨N, Or.inr ⟨N, rfl, hN, fun a ha hne => ?_⟩⟩
          by_cases q : a = m
          · rw [q]; exact hb
          · exact bf_trans hb (z2 a ⟨ha, hlt a ha hne⟩ q)
        · have hb2 : bf rk key m N := by unfold bf at *; omega
          refine ⟨m, Or.inr ⟨m, rfl, z1.1, fun a ha hne => ?_⟩⟩
          by_cases q : a = N
          · rw [q]; exact hb2
          · exact z2 a ⟨ha, hlt a ha q⟩ hne
    · have e : (fun a => C a ∧ a < N) = C := by
        funext a
        exact propext ⟨fun z => z.1, fun z => ⟨z, hlt a z (fun q => hN (q ▸ z))⟩⟩
      rw [e] at hR
      exact ⟨r, hR⟩
theorem cd_sel {P : PG} (w : WF P) {f : Nat} {S : List Nat} : ∃ r, Sel (Cd P f S) (fun h => lmin ((cf P f).1 h)) (bd P f S) r := by
  have h40 := w.b40
  have ci := ci_cf (P := P) (f := f)
  have hm : ∀ a, Cd P f S a → lmin ((cf P f).1 a) ∈ (cf P f).1 a := fun a ha => lmin_mem (ci.ne ha.2.1) (fun k hk => by have := ((cf_blk w hk).mpr ha.1).1; omega)
  refine sel_ex 40 _ (fun a ha => by have := ha.1.1; omega) (fun a b ha hb hne e => hne ?_)
  have h1 := ci.2.1 _ _ (hm a ha)
  have h2 := ci.2.1 _ _ (hm b hb)
  rw [← h1, ← h2]
  rw [e]
theorem nx_case {P : PG} (w : WF P) {f : Nat} (hf : f < P 0 0) {T : List Nat} (hT : TT P f T) : nx P f T = -1 ∨ ∃ g : Nat, nx P f T = (g : Int) ∧ blk P f g ∧ (cf P f).2 g = g ∧ g ∉ T := by
  by_cases hne : T = []
  · right
    refine ⟨mb P f 0, by rw [hne]; exact if_pos rfl, ⟨w.mbl f 0 hf (w.mem f hf), w.mbo f 0 hf (w.mem f hf)⟩, cf_entry w hf, by rw [hne]; simp⟩
  · obtain ⟨r, hr⟩ := cd_sel w (f := f) (S := flat P f T)
    have e : nx P f T = r := by unfold nx; rw [if_neg hne]; exact sel1_eq hr
    rcases hr with ⟨e2, _⟩ | ⟨m, e2, hm, _⟩
    · left; omega
    · right
      exact ⟨m, e.trans e2, hm.1, hm.2.1, fun z => hm.2.2 ((head_flat hT hm.2.1).mpr z)⟩
theorem tk_tt {P : PG} (w : WF P) {f : Nat} (hf : f < P 0 0) : ∀ n, TT P f (tk P f n) ∧ ((tk P f n).length = n ∨ nx P f (tk P f n) < 0)
  | 0 => ⟨⟨List.nodup_nil, fun h hh => by cases hh⟩, Or.inl rfl⟩
  | n + 1 => by
    obtain ⟨h1, h2⟩ := tk_tt w hf n
    show TT P f (if nx P f (tk P f n) < 0 then tk P f n else tk P f n ++ [(nx P f (tk P f n)).toNat]) ∧ ((if nx P f (tk P f n) < 0 then tk P f n else tk P f n ++ [(nx P f (tk P f n)).toNat]).length = n + 1 ∨ nx P f (if nx P f (tk P f n) < 0 then tk P f n else tk P f n ++ [(nx P f (tk P f n)).toNat]) < 0)
    by_cases hn : nx P f (tk P f n) < 0
    · rw [if_pos hn]; exact ⟨h1, Or.inr hn⟩
    · rw [if_neg hn]
      rcases nx_case w hf h1 with e | ⟨g, e, z1, z2, z3⟩
      · omega
      · rw [e]
        refine ⟨h1.snoc z1 z2 z3, Or.inl ?_⟩
        rw [List.length_append]
        have := h2.resolve_right hn
        simp [this]
theorem tkf_tt {P : PG} (w : WF P) {f : Nat} (hf : f < P 0 0) : TT P f (tkf P f) := (tk_tt w hf 41).1
theorem tkf_end {P : PG} (w : WF P) {f : Nat} (hf : f < P 0 0) : nx P f (tkf P f) < 0 := by
  have h := tk_tt w hf 41
  rcases h.2 with e | e
  · have := h.1.len w
    have h1 := w.lst f hf
    have h2 := w.b40
    omega
  · exact e
theorem fl_mem {P : PG} (w : WF P) {f : Nat} (hf : f < P 0 0) {k : Nat} : k ∈ flat P f (tkf P f) ↔ blk P f k :=
  ⟨fun h => flat_blk w (tkf_tt w hf) h, fun h => flat_all w (tkf_tt w hf) (tkf_end w hf) (cd_sel w) h⟩
theorem fl_len {P : PG} (w : WF P) {f : Nat} (hf : f < P 0 0) : (flat P f (tkf P f)).length = P 1 f := by
  have hp : (flat P f (tkf P f)).Perm (mbs P f) := (List.perm_ext_iff_of_nodup (flat_nodup (tkf_tt w hf)) (mbs_nodup w hf)).mpr (fun a => by rw [fl_mem w hf, mem_mbs w hf])
  rw [hp.length_eq, mbs_len]
theorem lin_perm {P : PG} (w : WF P) {f : Nat} (hf : f < P 0 0) : (lin P f).Perm (mbs P f) := by
  unfold lin
  split
  · exact List.Perm.refl _
  · exact (List.perm_ext_iff_of_nodup (flat_nodup (tkf_tt w hf)) (mbs_nodup w hf)).mpr (fun a => by rw [fl_mem w hf, mem_mbs w hf])
theorem lin_len {P : PG} (w : WF P) {f : Nat} (hf : f < P 0 0) : (lin P f).length = P 1 f := by rw [(lin_perm w hf).length_eq, mbs_len]
theorem lin_mem {P : PG} (w : WF P) {f : Nat} (hf : f < P 0 0) {k : Nat} : k ∈ lin P f ↔ blk P f k := by rw [(lin_perm w hf).mem_iff, mem_mbs w hf]
/-- functions stand one behind another -/
theorem seg {P : PG} (w : WF P) {g : Nat} : ∀ {f : Nat}, g < f → f < P 0 0 → P 2 g + P 1 g ≤ P 2 f
  | 0, h, _ => by omega
  | f + 1, h, hf => by
    rw [w.nxt f hf]
    by_cases e : g = f
    · subst e; omega
    · have := seg w (g := g) (f := f) (by omega) (by omega)
      omega
theorem s_keepNumbers {D : DT} {P : PG} (w : WF P) (d : DevP D 4 P) {f : Nat} (hf : f < P 0 0) : wp (m_X0_keepNumbers (f : Int) D) (fun D' => Fr [132, 133, 135] D D' ∧ (∀ i, i < P 1 f → D' 132 (P 2 f + i) = ((mb P f i : Nat) : Int)) ∧ (∀ i, i < P 2 f ∨ P 2 f + P 1 f ≤ i → D' 132 i = D 132 i) ∧ (∀ k, blk P f k → D' 133 k = 0) ∧ (∀ k, ¬ blk P f k → D' 133 k = D 133 k) ∧ D' 135 f = 1 ∧ ∀ g, g ≠ f → D' 135 g = D 135 g) := by
  have h8 := w.f8; have h40 := w.b40; have hlst := w.lst f hf
  unfold m_X0_keepNumbers
  rw [wp_bind]
  refine wp_for (P 1 f) (fun k s => s.1 = (k : Int) ∧ Fr [132, 133] D s.2 ∧ (∀ i, i < k → s.2 132 (P 2 f + i) = ((mb P f i : Nat) : Int)) ∧ (∀ i, i < P 2 f ∨ P 2 f + P 1 f ≤ i → s.2 132 i = D 132 i) ∧ (∀ b, (∃ j, j < k ∧ mb P f j = b) → s.2 133 b = 0) ∧ (∀ b, ¬ blk P f b → s.2 133 b = D 133 b)) (Nat.zero_le _) ⟨rfl, Fr.rf, fun i hi => by omega, fun _ _ => rfl, fun b ⟨j, hj, _⟩ => by omega, fun _ _ => rfl⟩ ?_
  rintro k ⟨kk, D1⟩ hk ⟨g1, hF, a1, a2, a3, a4⟩
  simp only at g1 hF a1 a2 a3 a4
  subst g1
  have d1 := d.fr hF (by decide)
  unfold b_X0_keepNumbers_2
  dsimp only
  rw [ard_n (by omega), Option.bind_some, d1.mem f hf, wp_ite]
  constructor
  rotate_left
  · intro q
    have : k = P 1 f := by omega
    subst this
    rw [wp_some, gd_r, awr_n (by omega), Option.bind_some, wp_some]
    refine ⟨(hF.mo (by simp)).put (by simp), fun i hi => ?_, fun i hi => ?_, fun b hb => ?_, fun b hb => ?_, dput_ss _ _ _ _, fun g hg => ?_⟩
    · rw [dput_nb _ (by decide)]; exact a1 i hi
    · rw [dput_nb _ (by decide)]; exact a2 i hi
    · rw [dput_nb _ (by decide)]
      obtain ⟨j, hj, e⟩ := w.cov b hb.1
      rw [hb.2] at hj e
      exact a3 b ⟨j, hj, e⟩
    · rw [dput_nb _ (by decide)]; exact a4 b hb
    · rw [dput_sn _ hg, hF 135 (by decide)]
  intro q
  have hk2 : k < P 1 f := by omega
  have hb := w.mbl f k hf hk2
  have hz : P 2 f + k < 2147483648 := by omega
  rw [s_member w d1 hf hk2, Option.bind_some, ard_n (by omega), Option.bind_some, d1.lst f hf, w32_nn hz, awr_n (by omega), Option.bind_some, awr_n (by omega), Option.bind_some, wp_some, gd_l]
  refine ⟨hk2, w32_succ (by omega), (hF.put (by simp)).put (by simp), fun i hi => ?_, fun i hi => ?_, ?_, fun b hbn => ?_⟩
  · dsimp only
    rw [dput_nb _ (by decide), dput_eq]
    by_cases e : i = k
    · subst e; simp
    · rw [if_neg (by omega)]; exact a1 i (by omega)
  · dsimp only
    rw [dput_nb _ (by decide), dput_sn _ (by omega)]; exact a2 i hi
  · rintro b ⟨j, hj, e⟩
    dsimp only
    rw [dput_eq]
    by_cases e2 : b = mb P f k
    · rw [if_pos ⟨rfl, e2⟩]
    · rw [if_neg (fun z => e2 z.2), dput_nb _ (by decide)]
      have : j ≠ k := fun z => e2 (by rw [← e, z])
      exact a3 b ⟨j, by omega, e⟩
  · dsimp only
    rw [dput_sn _ (fun z => hbn (by rw [z]; exact ⟨hb, w.mbo f k hf hk2⟩)), dput_nb _ (by decide)]
    exact a4 b hbn
theorem s_warm {D : DT} {P : PG} (w : WF P) (d : DevP D 4 P) {f : Nat} (hf : f < P 0 0) {nm : Nat → Nat} (hn : ∀ k, blk P f k → D 133 k = ((nm k : Nat) : Int)) {c : Nat} : wp (m_X0_warm (f : Int) (c : Int) D) (fun D' => Fr [134] D D' ∧ (∀ k, blk P f k → D' 134 k = if nm k = c then 0 else D 134 k) ∧ ∀ k, ¬ blk P f k → D' 134 k = D 134 k) := by
  have h8 := w.f8; have h40 := w.b40; have hlst := w.lst f hf
  unfold m_X0_warm
  rw [wp_bind]
  refine wp_for (P 1 f) (fun k s => s.1 = (k : Int) ∧ Fr [134] D s.2 ∧ (∀ j, j < k → s.2 134 (mb P f j) = if nm (mb P f j) = c then 0 else D 134 (mb P f j)) ∧ (∀ j, k ≤ j → j < P 1 f → s.2 134 (mb P f j) = D 134 (mb P f j)) ∧ ∀ b, ¬ blk P f b → s.2 134 b = D 134 b) (Nat.zero_le _) ⟨rfl, Fr.rf, fun i hi => by omega, fun _ _ _ => rfl, fun _ _ => rfl⟩ ?_
  rintro k ⟨kk, D1⟩ hk ⟨g1, hF, a1, a2, a3⟩
  simp only at g1 hF a1 a2 a3
  subst g1
  have d1 := d.fr hF (by decide)
  unfold b_X0_warm_2
  dsimp only
  rw [ard_n (by omega), Option.bind_some, d1.mem f hf, wp_ite]
  constructor
  rotate_left
  · intro q
    have : k = P 1 f := by omega
    subst this
    rw [wp_some, gd_r, wp_some]
    refine ⟨hF, fun b hb => ?_, a3⟩
    obtain ⟨j, hj, e⟩ := w.cov b hb.1
    rw [hb.2] at hj e
    rw [← e]; exact a1 j hj
  intro q
  have hk2 : k < P 1 f := by omega
  have hb : blk P f (mb P f k) := ⟨w.mbl f k hf hk2, w.mbo f k hf hk2⟩
  have hb40 : mb P f k < 40 := by have := hb.1; omega
  have hne : ∀ j, j < P 1 f → j ≠ k → mb P f j ≠ mb P f k := fun j hj hjk e => by
    by_cases z : j < k
    · have := w.inc f j k hf z hk2; omega
    · have := w.inc f k j hf (by omega) hj; omega
  rw [s_member w d1 hf hk2, Option.bind_some, ard_n hb40, Option.bind_some, hF 133 (by decide), hn _ hb, wp_bind]
  by_cases e : nm (mb P f k) = c
  · rw [if_pos (by rw [e]), abit_0, Option.bind_some, awr_n hb40, Option.bind_some, wp_some, wp_some, gd_l]
    refine ⟨hk2, w32_succ (by omega), hF.put (by simp), fun j hj => ?_, fun j hj hj2 => ?_, fun b hbn => ?_⟩
    · dsimp only
      by_cases z : j = k
      · subst z; rw [dput_ss, if_pos e]
      · rw [dput_sn _ (hne j (by omega) z)]; exact a1 j (by omega)
    · dsimp only
      rw [dput_sn _ (hne j hj2 (by omega))]; exact a2 j (by omega) hj2
    · dsimp only
      rw [dput_sn _ (fun z => hbn (by rw [z]; exact hb))]; exact a3 b hbn
  · rw [if_neg (by omega), wp_some, wp_some, gd_l]
    refine ⟨hk2, w32_succ (by omega), hF, fun j hj => ?_, fun j hj hj2 => a2 j (by omega) hj2, a3⟩
    dsimp only
    by_cases z : j = k
    · subst z; rw [if_neg e]; exact a2 j (by omega) hk2
    · exact a1 j (by omega)
theorem s_markCold {D : DT} {P : PG} (w : WF P) (d : DevP D 4 P) {f : Nat} (hf : f < P 0 0) (hDF : DF P f D) {nm : Nat → Nat} (hn : ∀ k, blk P f k → D 133 k = ((nm k : Nat) : Int)) : wp (m_X0_markCold (f : Int) D) (fun D' => Fr [134] D D' ∧ (∀ k, blk P f k → (D' 134 k = 1 ∧ nm k ≠ 0 ∧ ∀ x, blk P f x → nm x = nm k → heat P x ≤ ((P 0 3 : Nat) : Int)) ∨ (D' 134 k = 0 ∧ ¬ (nm k ≠ 0 ∧ ∀ x, blk P f x → nm x = nm k → heat P x ≤ ((P 0 3 : Nat) : Int)))) ∧ ∀ k, ¬ blk P f k → D' 134 k = D 134 k) := by
  have h8 := w.f8; have h40 := w.b40; have hlst := w.lst f hf
  have hin : ∀ j, j < P 1 f → blk P f (mb P f j) := fun j hj => ⟨w.mbl f j hf hj, w.mbo f j hf hj⟩
  unfold m_X0_markCold
  rw [ard_n (by omega), Option.bind_some, d.mem f hf, wp_bind]
  refine wp_for (P 1 f) (fun k s => s.1 = (k : Int) ∧ Fr [134] D s.2 ∧ (∀ b, (∃ j, j < k ∧ mb P f j = b) → s.2 134 b = if 0 < nm b then 1 else 0) ∧ ∀ b, ¬ blk P f b → s.2 134 b = D 134 b) (Nat.zero_le _) ⟨rfl, Fr.rf, fun b ⟨j, hj, _⟩ => by omega, fun _ _ => rfl⟩ ?_
  rintro k ⟨kk, D1⟩ hk ⟨g1, hF, a1, a2⟩
  simp only at g1 hF a1 a2
  subst g1
  have d1 := d.fr hF (by decide)
  unfold b_X0_markCold_12
  dsimp only
  rw [wp_ite]
  constructor
  · intro q
    have hk2 : k < P 1 f := by omega
    have hb := hin k hk2
    have hb40 : mb P f k < 40 := by have := hb.1; omega
    have hfin : ∀ t : Int, t = (if 0 < nm (mb P f k) then 1 else 0) → k < P 1 f ∧ w32 ((k : Int) + 1) = ((k + 1 : Nat) : Int) ∧ Fr [134] D (dput D1 134 (mb P f k) t) ∧ (∀ b, (∃ j, j < k + 1 ∧ mb P f j = b) → dput D1 134 (mb P f k) t 134 b = if 0 < nm b then 1 else 0) ∧ ∀ b, ¬ blk P f b → dput D1 134 (mb P f k) t 134 b = D 134 b := by
      intro t ht
      refine ⟨hk2, w32_succ (by omega), hF.put (by simp), ?_, fun b hbn => ?_⟩
      · rintro b ⟨j, hj, e⟩
        rw [dput_eq]
        by_cases z : b = mb P f k
        · rw [if_pos ⟨rfl, z⟩, ht, z]
        · rw [if_neg (fun y => z y.2)]
          have : j ≠ k := fun y => z (by rw [← e, y])
          exact a1 b ⟨j, by omega, e⟩
      · rw [dput_sn _ (fun z => hbn (by rw [z]; exact hb))]; exact a2 b hbn
    rw [s_member w d1 hf hk2, Option.bind_some, ard_n hb40, Option.bind_some, hF 133 (by decide), hn _ hb]
    by_cases e : 0 < nm (mb P f k)
    · rw [if_pos (by omega), Option.bind_some, abit_1, Option.bind_some, awr_n hb40, Option.bind_some, wp_some, gd_l]
      exact hfin 1 (by rw [if_pos e])
    · rw [if_neg (by omega), Option.bind_some, abit_0, Option.bind_some, awr_n hb40, Option.bind_some, wp_some, gd_l]
      exact hfin 0 (by rw [if_neg e])
  intro q
  have : k = P 1 f := by omega
  subst this
  clear q
  rw [wp_some, gd_r, wp_bind]
  refine wp_for (P 1 f) (fun k s => s.1 = (k : Int) ∧ Fr [134] D s.2 ∧ (∀ b, blk P f b → (s.2 134 b = 1 ∧ nm b ≠ 0 ∧ ∀ j, j < k → nm (mb P f j) = nm b → heat P (mb P f j) ≤ ((P 0 3 : Nat) : Int)) ∨ (s.2 134 b = 0 ∧ ¬ (nm b ≠ 0 ∧ ∀ j, j < k → nm (mb P f j) = nm b → heat P (mb P f j) ≤ ((P 0 3 : Nat) : Int)))) ∧ ∀ b, ¬ blk P f b → s.2 134 b = D 134 b) (Nat.zero_le _) ⟨rfl, hF, fun b hb => ?_, a2⟩ ?_
  · obtain ⟨j, hj, e⟩ := w.cov b hb.1
    rw [hb.2] at hj e
    have := a1 b ⟨j, hj, e⟩
    by_cases z : 0 < nm b
    · rw [if_pos z] at this
      exact Or.inl ⟨this, by omega, fun j hj => by omega⟩
    · rw [if_neg z] at this
      exact Or.inr ⟨this, fun y => by have := y.1; omega⟩
  rintro k ⟨kk, D2⟩ hk2' ⟨g1, hF2, c1, c2⟩
  simp only at g1 hF2 c1 c2
  subst g1
  have d2 := d.fr hF2 (by decide)
  unfold b_X0_markCold_58
  dsimp only
  rw [wp_ite]
  constructor
  · intro q
    have hk2 : k < P 1 f := by omega
    have hb := hin k hk2
    have hb40 : mb P f k < 40 := by have := hb.1; omega
    rw [s_member w d2 hf hk2, Option.bind_some, ard_n hb40, Option.bind_some, hF2 125 (by decide), hDF.2 _ hb.1 hb.2, d2.s3, wp_bind]
    by_cases e : ((P 0 3 : Nat) : Int) < heat P (mb P f k)
    · rw [if_pos e, ard_n hb40, Option.bind_some, hF2 133 (by decide), hn _ hb, wp_bind]
      refine wp_mono (s_warm w d2 hf (fun b hb => by rw [hF2 133 (by decide)]; exact hn b hb)) ?_
      rintro D3 ⟨e1, e2, e3⟩
      rw [wp_some, wp_some, gd_l]
      refine ⟨hk2, w32_succ (by omega), hF2.tr e1, fun b hb => ?_, fun b hbn => by show D3 134 b = _; rw [e3 b hbn]; exact c2 b hbn⟩
      show (D3 134 b = 1 ∧ _) ∨ (D3 134 b = 0 ∧ _)
      rw [e2 b hb]
      by_cases z : nm b = nm (mb P f k)
      · rw [if_pos z]
        exact Or.inr ⟨rfl, fun y => by have := y.2 k (by omega) z.symm; omega⟩
      · rw [if_neg z]
        rcases c1 b hb with ⟨y1, y2, y3⟩ | ⟨y1, y2⟩
        · refine Or.inl ⟨y1, y2, fun j hj hjn => ?_⟩
          by_cases x : j = k
          · subst x; exact absurd hjn.symm z
          · exact y3 j (by omega) hjn
        · exact Or.inr ⟨y1, fun y => y2 ⟨y.1, fun j hj => y.2 j (by omega)⟩⟩
    · rw [if_neg e, wp_some, wp_some, gd_l]
      refine ⟨hk2, w32_succ (by omega), hF2, fun b hb => ?_, c2⟩
      show (D2 134 b = 1 ∧ _) ∨ (D2 134 b = 0 ∧ _)
      rcases c1 b hb with ⟨y1, y2, y3⟩ | ⟨y1, y2⟩
      · refine Or.inl ⟨y1, y2, fun j hj hjn => ?_⟩
        by_cases x : j = k
        · subst x; omega
        · exact y3 j (by omega) hjn
      · exact Or.inr ⟨y1, fun y => y2 ⟨y.1, fun j hj => y.2 j (by omega)⟩⟩
  · intro q
    have : k = P 1 f := by omega
    subst this
    rw [wp_some, gd_r, wp_some]
    refine ⟨hF2, fun b hb => ?_, c2⟩
    have hiff : (∀ j, j < P 1 f → nm (mb P f j) = nm b → heat P (mb P f j) ≤ ((P 0 3 : Nat) : Int)) ↔ ∀ x, blk P f x → nm x = nm b → heat P x ≤ ((P 0 3 : Nat) : Int) := by
      constructor
      · intro z x hx hxn
        obtain ⟨j, hj, e⟩ := w.cov x hx.1
        rw [hx.2] at hj e
        rw [← e] at hxn ⊢
        exact z j hj hxn
      · intro z j hj hjn
        exact z _ (hin j hj) hjn
    have := c1 b hb
    rw [hiff] at this
    exact this
