/-! ===== Chains.strongest, Chains.stand ===== -/
theorem lmin_head {P : PG} (w : WF P) {f : Nat} (hf : f < P 0 0) {k : Nat} (hk : k < P 1 f) (hno : ¬ ∃ j, j < k ∧ (cf P f).2 (mb P f j) = (cf P f).2 (mb P f k)) : lmin ((cf P f).1 ((cf P f).2 (mb P f k))) = mb P f k := by
  have h40 := w.b40
  have hb : blk P f (mb P f k) := ⟨w.mbl f k hf hk, w.mbo f k hf hk⟩
  have hm := (ci_cf (P := P) (f := f)).1 (mb P f k)
  have h1 := lmin_le hm
  have hX := (cf_blk w hm).mp hb
  have hne : (cf P f).1 ((cf P f).2 (mb P f k)) ≠ [] := fun e => by rw [e] at hm; cases hm
  have h2 := lmin_mem hne (fun x hx => by have := ((cf_blk w hx).mpr hX).1; omega)
  have h3 := (cf_blk w h2).mpr hX
  obtain ⟨j, hj, e⟩ := w.cov _ h3.1
  rw [h3.2] at hj e
  have e2 := ci_cf.2.1 _ _ h2
  rw [← e] at e2
  by_cases z : j < k
  · exact absurd ⟨j, z, e2⟩ hno
  · by_cases z2 : j = k
    · rw [← e, z2]
    · have := w.inc f k j hf (by omega) hj
      omega
theorem s_strongest {D D0 : DT} {P : PG} (w : WF P) (d : DevP D0 4 P) {f : Nat} (hf : f < P 0 0) (hC : DCh P f (cf P f) D0) {T : List Nat} (hT : TT P f T) (h : SD P f D0 T D) (hB : BD P f T D) : wp (m_X0_strongest (f : Int) D) (fun x => Sel (Cd P f (flat P f T)) (fun h => lmin ((cf P f).1 h)) (bd P f (flat P f T)) x) := by
  have h8 := w.f8; have h40 := w.b40; have hlst := w.lst f hf
  have ci := ci_cf (P := P) (f := f)
  have d1 : DevP D 4 P := d.fr h.1 (by decide)
  have hbk : ∀ x, blk P f x → blk P f ((cf P f).2 x) := fun x hx => (cf_blk w (ci.1 x)).mp hx
  have hcdx : ∀ x, blk P f x → x ∉ flat P f T → Cd P f (flat P f T) ((cf P f).2 x) := fun x hx hn => ⟨hbk x hx, ci.hh x, fun z => hn (by rw [mem_flat hT] at z ⊢; rw [ci.hh x] at z; exact z)⟩
  have hin : ∀ j, j < P 1 f → blk P f (mb P f j) := fun j hj => ⟨w.mbl f j hf hj, w.mbo f j hf hj⟩
  unfold m_X0_strongest
  rw [wp_bind]
  refine wp_for (P 1 f) (fun k s => s.2 = (k : Int) ∧ Sel (fun h => ∃ j, j < k ∧ (cf P f).2 (mb P f j) = h ∧ mb P f j ∉ flat P f T) (fun h => lmin ((cf P f).1 h)) (bd P f (flat P f T)) s.1) (Nat.zero_le _) ⟨rfl, Or.inl ⟨rfl, fun a => by rintro ⟨j, hj, _⟩; omega⟩⟩ ?_
  rintro k ⟨x, kk⟩ hk ⟨g1, g2⟩
  simp only at g1 g2
  subst g1
  unfold b_X0_strongest_4
  dsimp only
  rw [ard_n (by omega), Option.bind_some, d1.mem f hf, wp_ite]
  constructor
  rotate_left
  · intro q
    have : k = P 1 f := by omega
    subst this
    rw [wp_some, gd_r, wp_some]
    have e : (fun h => ∃ j, j < P 1 f ∧ (cf P f).2 (mb P f j) = h ∧ mb P f j ∉ flat P f T) = Cd P f (flat P f T) := by
      funext h
      refine propext ⟨?_, ?_⟩
      · rintro ⟨j, hj, rfl, hn⟩
        exact hcdx _ (hin j hj) hn
      · rintro ⟨z1, z2, z3⟩
        obtain ⟨j, hj, e⟩ := w.cov h z1.1
        rw [z1.2] at hj e
        exact ⟨j, hj, by rw [e]; exact z2, by rw [e]; exact z3⟩
    rw [e] at g2
    exact g2
  intro q
  have hk2 : k < P 1 f := by omega
  have hb := hin k hk2
  have hb40 : mb P f k < 40 := by have := hb.1; omega
  have hX := hbk _ hb
  have hX40 : (cf P f).2 (mb P f k) < 40 := by have := hX.1; omega
  have hC1 : ∀ k, blk P f k → D 137 k = (((cf P f).2 k : Nat) : Int) := fun k hk => by rw [h.1 137 (by decide)]; exact hC.1 k hk
  rw [s_member w d1 hf hk2, Option.bind_some, ard_n hb40, Option.bind_some, wp_bind]
  have key : ∀ y, Sel (fun h => ∃ j, j < k + 1 ∧ (cf P f).2 (mb P f j) = h ∧ mb P f j ∉ flat P f T) (fun h => lmin ((cf P f).1 h)) (bd P f (flat P f T)) y → wp (some (Sum.inl (β := Int) (y, w32 ((k : Int) + 1)))) (fun t => gd t (fun s' => k < P 1 f ∧ s'.2 = ((k + 1 : Nat) : Int) ∧ Sel (fun h => ∃ j, j < k + 1 ∧ (cf P f).2 (mb P f j) = h ∧ mb P f j ∉ flat P f T) (fun h => lmin ((cf P f).1 h)) (bd P f (flat P f T)) s'.1) (fun r => wp (some r) (fun x => Sel (Cd P f (flat P f T)) (fun h => lmin ((cf P f).1 h)) (bd P f (flat P f T)) x))) := by
    intro y hy
    rw [wp_some, gd_l]
    exact ⟨hk2, w32_succ (by omega), hy⟩
  have hsame : (mb P f k ∈ flat P f T ∨ ∃ j, j < k ∧ (cf P f).2 (mb P f j) = (cf P f).2 (mb P f k)) → (fun h => ∃ j, j < k + 1 ∧ (cf P f).2 (mb P f j) = h ∧ mb P f j ∉ flat P f T) = (fun h => ∃ j, j < k ∧ (cf P f).2 (mb P f j) = h ∧ mb P f j ∉ flat P f T) := by
    intro hs
    funext h
    refine propext ⟨?_, ?_⟩
    · rintro ⟨j, hj, e, hn⟩
      by_cases z : j = k
      · subst z
        rcases hs with hs | ⟨j', hj', e'⟩
        · exact absurd hs hn
        · exact ⟨j', hj', e'.trans e, fun z => hn (by rw [mem_flat hT] at z ⊢; rw [← e']; exact z)⟩
      · exact ⟨j, by omega, e, hn⟩
    · rintro ⟨j, hj, e, hn⟩
      exact ⟨j, by omega, e, hn⟩
  rcases h.2.2.2.2.2.1 _ hb with ⟨y1, y2⟩ | ⟨y1, y2⟩
  · rw [y1, if_neg (by decide), wp_some]
    refine key x ?_
    rw [hsame (Or.inl y2)]
    exact g2
  rw [y1, if_pos rfl]
  have hcand := hcdx _ hb y2
  by_cases hold : ∃ j, j < k ∧ (cf P f).2 (mb P f j) = (cf P f).2 (mb P f k)
  · -- the chain was met before
    have hs := hsame (Or.inr hold)
    obtain ⟨j, hj, ej⟩ := hold
    have hmem : (fun h => ∃ j, j < k ∧ (cf P f).2 (mb P f j) = h ∧ mb P f j ∉ flat P f T) ((cf P f).2 (mb P f k)) := ⟨j, hj, ej, fun z => y2 (by rw [mem_flat hT] at z ⊢; rw [← ej]; exact z)⟩
    rcases id g2 with ⟨e, z⟩ | ⟨m, e, hm1, hm2⟩
    · exact absurd hmem (z _)
    · subst e
      obtain ⟨j2, hj2, e2, hn2⟩ := hm1
      have hmc : Cd P f (flat P f T) m := by rw [← e2]; exact hcdx _ (hin j2 (by omega)) hn2
      have hm40 : m < 40 := by have := hmc.1.1; omega
      rw [if_neg (by omega), ard_n hb40, Option.bind_some, hC1 _ hb, ard_n hX40, Option.bind_some, ard_n hm40, Option.bind_some, hB _ hcand, hB _ hmc, if_neg, wp_some]
      · refine key m ?_
        rw [hs]; exact g2
      · by_cases z : (cf P f).2 (mb P f k) = m
        · rw [z]; omega
        · have := hm2 _ hmem z
          unfold bf at this
          omega
  · have hlm := lmin_head w hf hk2 hold
    have hnew : ∀ h, (∃ j, j < k + 1 ∧ (cf P f).2 (mb P f j) = h ∧ mb P f j ∉ flat P f T) ↔ (h = (cf P f).2 (mb P f k) ∨ ∃ j, j < k ∧ (cf P f).2 (mb P f j) = h ∧ mb P f j ∉ flat P f T) := by
      intro h
      constructor
      · rintro ⟨j, hj, e, hn⟩
        by_cases z : j = k
        · subst z; exact Or.inl e.symm
        · exact Or.inr ⟨j, by omega, e, hn⟩
      · rintro (e | ⟨j, hj, e, hn⟩)
        · exact ⟨k, by omega, e.symm, y2⟩
        · exact ⟨j, by omega, e, hn⟩
    rcases id g2 with ⟨e, z⟩ | ⟨m, e, hm1, hm2⟩
    · subst e
      rw [if_pos rfl, ard_n hb40, Option.bind_some, hC1 _ hb, wp_some]
      refine key _ (Or.inr ⟨_, rfl, (hnew _).mpr (Or.inl rfl), fun a ha hne => ?_⟩)
      exact absurd (((hnew a).mp ha).resolve_left hne) (z a)
    · subst e
      have hm1' := hm1
      obtain ⟨j2, hj2, e2, hn2⟩ := hm1
      have hmc : Cd P f (flat P f T) m := by rw [← e2]; exact hcdx _ (hin j2 (by omega)) hn2
      have hm40 : m < 40 := by have := hmc.1.1; omega
      have hml : lmin ((cf P f).1 m) < mb P f k := by
        have z1 : lmin ((cf P f).1 m) ≤ mb P f j2 := lmin_le (by rw [← e2]; exact ci.1 _)
        have := w.inc f j2 k hf hj2 hk2
        omega
      rw [if_neg (by omega), ard_n hb40, Option.bind_some, hC1 _ hb, ard_n hX40, Option.bind_some, ard_n hm40, Option.bind_some, hB _ hcand, hB _ hmc]
      by_cases hgt : bd P f (flat P f T) m < bd P f (flat P f T) ((cf P f).2 (mb P f k))
      · rw [if_pos hgt, Option.bind_some, wp_some]
        refine key _ (Or.inr ⟨_, rfl, (hnew _).mpr (Or.inl rfl), fun a ha hne => ?_⟩)
        have ha2 := ((hnew a).mp ha).resolve_left hne
        by_cases z : a = m
        · subst z; exact Or.inl hgt
        · exact bf_trans (Or.inl hgt) (hm2 a ha2 z)
      · rw [if_neg hgt, wp_some]
        refine key _ (Or.inr ⟨m, rfl, (hnew _).mpr (Or.inr hm1'), fun a ha hne => ?_⟩)
        rcases (hnew a).mp ha with e | ha2
        · subst e
          unfold bf
          dsimp only
          rw [hlm]
          omega
        · exact hm2 a ha2 hne
noncomputable def tkf (P : PG) (f : Nat) : List Nat := tk P f 41
theorem s_stand {D : DT} {P : PG} (w : WF P) (d : DevP D 4 P) {f : Nat} (hf : f < P 0 0) (hDF : DF P f D) (hC : DCh P f (cf P f) D) (hrow : Row D 136 (clc P f)) (hz : ∀ b, blk P f b → D 139 b = 0 ∧ D 140 b = 0) : wp (m_X0_stand (f : Int) (((clc P f).length : Nat) : Int) D) (fun D' => TT P f (tkf P f) ∧ nx P f (tkf P f) < 0 ∧ SD P f D (tkf P f) D') := by
  have h8 := w.f8; have h40 := w.b40; have hlst := w.lst f hf
  have ci := ci_cf (P := P) (f := f)
  unfold m_X0_stand
  rw [s_entryOf w d hf, Option.bind_some, awr_n (by omega), Option.bind_some, wp_bind]
  have hent : blk P f (mb P f 0) := ⟨w.mbl f 0 hf (w.mem f hf), w.mbo f 0 hf (w.mem f hf)⟩
  have hnx0 : nx P f [] = ((mb P f 0 : Nat) : Int) := if_pos rfl
  refine wp_for (P 1 f) (fun i s => s.2.2.1 = (i : Int) ∧ ∃ T, T = tk P f i ∧ T.length = i ∧ TT P f T ∧ SD P f D T s.2.2.2 ∧ BD P f T s.2.2.2 ∧ s.1 = (((flat P f T).length : Nat) : Int) ∧ s.2.1 = nx P f T ∧ (T ≠ [] → Sel (Cd P f (flat P f T)) (fun h => lmin ((cf P f).1 h)) (bd P f (flat P f T)) s.2.1)) (Nat.zero_le _) ⟨rfl, [], rfl, rfl, ⟨List.nodup_nil, fun h hh => by cases hh⟩, ⟨Fr.rf.put (by simp), fun i x hx => by simp [flat] at hx, fun i _ => ?_, fun j h k hj => by simp at hj, fun k _ => ?_, fun k hk => Or.inr ⟨?_, by simp [flat]⟩, ?_, fun g hg => ?_⟩, fun h hh => ?_, rfl, hnx0.symm, fun z => absurd rfl z⟩ ?_
  · dsimp only; rw [dput_nb _ (by decide)]
  · dsimp only; rw [dput_nb _ (by decide)]
  · dsimp only; rw [dput_nb _ (by decide)]; exact (hz k hk).2
  · dsimp only; rw [dput_ss]; rfl
  · dsimp only; rw [dput_sn _ hg]
  · dsimp only
    rw [dput_nb _ (by decide), (hz h hh.1).1]
    unfold bd bdl
    refine (ls_zero (fun a _ => if_neg ?_)).symm
    rintro (z | z) <;> simp [flat] at z
  rintro i ⟨n, c, ii, D1⟩ hi ⟨g1, T, hTk, hTl, hT, hS, hB, hn, hc, hsel⟩
  simp only at g1 hS hB hn hc hsel
  subst g1; subst hn
  have d1 : DevP D1 4 P := d.fr hS.1 (by decide)
  have hend : nx P f T < 0 → TT P f (tkf P f) ∧ nx P f (tkf P f) < 0 ∧ SD P f D (tkf P f) D1 := by
    intro z
    have e : tkf P f = T := by
      rw [hTk] at z ⊢
      exact tk_end z 41 (by omega)
    rw [e]
    exact ⟨hT, z, hS⟩
  have hcase : c < 0 ∨ ∃ g : Nat, c = (g : Int) ∧ blk P f g ∧ (cf P f).2 g = g ∧ g ∉ T := by
    by_cases hne : T = []
    · right
      refine ⟨mb P f 0, by rw [hc, hne, hnx0], hent, cf_entry w hf, by rw [hne]; simp⟩
    · rcases hsel hne with ⟨e, _⟩ | ⟨m, e, hm, _⟩
      · left; omega
      · right
        exact ⟨m, e, hm.1, hm.2.1, fun z => hm.2.2 ((head_flat hT hm.2.1).mpr z)⟩
  unfold b_X0_stand_22
  dsimp only
  rw [ard_n (by omega), Option.bind_some, d1.mem f hf, wp_ite]
  constructor
  rotate_left
  · intro q
    rw [wp_some, gd_r, wp_some]
    refine hend ?_
    rw [← hc]
    rcases hcase with z | ⟨g, e, z1, z2, z3⟩
    · exact z
    · exfalso
      have := (hT.snoc z1 z2 z3).len w
      rw [List.length_append, hTl] at this
      simp at this
      omega
  intro q
  have hi2 : i < P 1 f := by omega
  rcases hcase with z | ⟨g, e, z1, z2, z3⟩
  · have e1 : c = -1 := by
      by_cases hne : T = []
      · rw [hc, hne, hnx0] at z; omega
      · rcases hsel hne with ⟨e, _⟩ | ⟨m, e, hm, _⟩
        · exact e
        · omega
    rw [if_pos e1, wp_some, gd_r, wp_some]
    exact hend (by rw [← hc]; exact z)
  · have hcg : nx P f T = (g : Int) := by rw [← hc]; exact e
    subst e
    rw [if_neg (by omega), wp_bind]
    refine wp_mono (s_putDown w d hf hC hT hS z1 z2 z3) ?_
    rintro ⟨x, D2⟩ ⟨k1, k2, k3⟩
    simp only at k1 k2 k3
    subst k1
    dsimp only
    rw [wp_bind]
    refine wp_mono (s_bindTo w d hf hDF hC hrow hT z1 z2 z3 k2 (fun h hh => by rw [k3]; exact hB h hh)) ?_
    rintro D3 ⟨k4, k5⟩
    have hT2 := hT.snoc z1 z2 z3
    rw [wp_bind]
    refine wp_mono (s_strongest w d hf hC hT2 k4 k5) ?_
    intro y hy
    rw [wp_some, gd_l]
    have htk2 : T ++ [g] = tk P f (i + 1) := by
      show _ = (if nx P f (tk P f i) < 0 then tk P f i else tk P f i ++ [(nx P f (tk P f i)).toNat])
      rw [← hTk, hcg, if_neg (by omega)]; rfl
    refine ⟨hi2, w32_succ (by omega), T ++ [g], htk2, by rw [List.length_append, hTl]; rfl, hT2, k4, k5, rfl, ?_, fun _ => hy⟩
    unfold nx
    rw [if_neg (by simp)]
    exact (sel1_eq hy).symm
