/-! ===== Chains.join, all of it ===== -/
def DC (P : PG) (f : Nat) (D : DT) : Prop := (∀ (i x : Nat), (lin P f)[i]? = some x → D 132 (P 2 f + i) = (x : Int)) ∧ (∀ k, blk P f k → D 133 k = ((num P f k : Nat) : Int) ∧ (D 134 k = 1 ∧ cld P f k ∨ D 134 k = 0 ∧ ¬ cld P f k)) ∧ D 135 f = ((grp P f : Nat) : Int)
theorem idx_at {l : List Nat} {x j : Nat} (hn : l.Nodup) (h : l[j]? = some x) : l.idxOf x = j := by
  obtain ⟨hj, e⟩ := List.getElem?_eq_some_iff.mp h
  rw [← e]
  exact List.Nodup.idxOf_getElem hn j hj
theorem s_join {D : DT} {P : PG} (w : WF P) (d : DevP D 4 P) {f : Nat} (hf : f < P 0 0) (hDF : DF P f D) : wp (m_X0_join (f : Int) D) (fun D' => Fr [132, 133, 134, 135, 136, 137, 138, 139, 140] D D' ∧ DC P f D' ∧ ∀ g, g < P 0 0 → g ≠ f → DC P g D → DC P g D') := by
  have h8 := w.f8; have h40 := w.b40; have h88 := w.a88; have hlst := w.lst f hf
  have DFc : ∀ E : DT, E 123 = D 123 → E 124 = D 124 → E 125 = D 125 → DF P f E := fun E e1 e2 e3 => by
    unfold DF; rw [e1, e2, e3]; exact hDF
  unfold m_X0_join
  rw [wp_bind]
  refine wp_mono (s_part w d hf) ?_
  rintro D1 ⟨hF1, a1⟩
  have d1 := d.fr hF1 (by decide)
  have df1 := DFc D1 (hF1 _ (by decide)) (hF1 _ (by decide)) (hF1 _ (by decide))
  rw [wp_bind]
  refine wp_mono (s_clist w d1 hf df1) ?_
  rintro ⟨n, D2⟩ ⟨hF2, l, hn, hl, hrow⟩
  simp only at hF2 hn hrow
  subst hn
  dsimp only
  have hlmem : ∀ x ∈ l, x < P 0 2 ∧ fn P x = f := fun x hx => by
    have := (hl.2 x).mp hx
    exact ⟨this.1, this.2.1⟩
  have hll : l.length ≤ 88 := Nat.le_trans (inc_len hl.1 (fun a ha => (hlmem a ha).1)) h88
  have df2 := DFc D2 ((hF2 _ (by decide)).trans (hF1 _ (by decide))) ((hF2 _ (by decide)).trans (hF1 _ (by decide))) ((hF2 _ (by decide)).trans (hF1 _ (by decide)))
  rw [wp_bind]
  refine wp_mono (s_sort (rk := id) (key := phi P) hrow (by decide) hll (by omega) (fun x hx => ?_) hl.1) ?_
  · exact ⟨show x < 88 by have := (hlmem x hx).1; omega, (df2.1 x (hlmem x hx).1 (hlmem x hx).2).1⟩
  rintro D3 ⟨hF3, m, hO, hrow3⟩
  have hm : CLm P f m := ⟨l, hl, hO⟩
  have em := hm.det (clc_ok (P := P) (f := f))
  subst em
  have hlen : l.length = (clc P f).length := hO.1.length_eq.symm
  rw [hlen]
  have hcl := hm.len w
  have f13 : Fr [136] D1 D3 := hF2.tr hF3
  have d3 := d1.fr f13 (by decide)
  rw [wp_bind]
  refine wp_for (clc P f).length (fun i s => s.1 = (i : Int) ∧ Fr [137, 138] D3 s.2 ∧ DCh P f (cst P ((clc P f).take i).reverse) s.2) (Nat.zero_le _) ⟨rfl, Fr.rf, fun k hk => ?_, fun h hh => ?_⟩ ?_
  · show D3 137 k = _
    rw [f13 137 (by decide), (a1 k hk).1]; rfl
  · exact nxt_one (by show D3 138 h = -1; rw [f13 138 (by decide)]; exact (a1 h hh).2.1)
  rintro i ⟨ii, D4⟩ hi ⟨g1, hF4, hC⟩
  simp only at g1 hF4 hC
  subst g1
  have d4 := d3.fr hF4 (by decide)
  unfold b_X0_join_28
  dsimp only
  rw [wp_ite]
  constructor
  · intro q
    have hi2 : i < (clc P f).length := by omega
    have ham : (clc P f)[i] ∈ clc P f := List.getElem_mem hi2
    have ham2 := (hm.mem _).mp ham
    have hr4 : D4 136 i = (((clc P f)[i] : Nat) : Int) := by rw [hF4 136 (by decide)]; exact hrow3.at hi2
    rw [ard_n (by omega), Option.bind_some, hr4, wp_bind]
    refine wp_mono (s_link w d4 (r := ((clc P f).take i).reverse) (fun b hb => hm.blk w (List.mem_of_mem_take (List.mem_reverse.mp hb))) ham2.1 (hm.blk w ham) hC) ?_
    rintro D5 ⟨e1, e2⟩
    rw [wp_some, gd_l]
    refine ⟨hi2, w32_succ (by omega), hF4.tr e1, ?_⟩
    rw [List.take_succ_eq_append_getElem hi2, List.reverse_append]
    exact e2
  intro q
  have : i = (clc P f).length := by omega
  subst this
  clear q
  rw [List.take_length] at hC
  have hC : DCh P f (cf P f) D4 := hC
  have f14 : Fr [136, 137, 138] D1 D4 := (f13.mo (by simp)).tr (hF4.mo (by simp))
  have df4 := DFc D4 ((f14 _ (by decide)).trans (hF1 _ (by decide))) ((f14 _ (by decide)).trans (hF1 _ (by decide))) ((f14 _ (by decide)).trans (hF1 _ (by decide)))
  have hrow4 : Row D4 136 (clc P f) := hrow3.cg (hF4 136 (by decide))
  rw [wp_some, gd_r, wp_bind]
  refine wp_mono (s_stand w d4 hf df4 hC hrow4 (fun b hb => by rw [f14 139 (by decide), f14 140 (by decide)]; exact ⟨(a1 b hb).2.2.1, (a1 b hb).2.2.2⟩)) ?_
  rintro D5 ⟨hT, _, hS⟩
  obtain ⟨s0, s1, s2, s3, s4, s5, s6, s7⟩ := hS
  have d5 := d4.fr s0 (by decide)
  have f05 : Fr [132, 133, 135, 136, 137, 138, 139, 140] D D5 := ((hF1.mo (by simp)).tr (f14.mo (by simp))).tr (s0.mo (by simp))
  have df5 := DFc D5 (f05 _ (by decide)) (f05 _ (by decide)) (f05 _ (by decide))
  have e132 : ∀ i, i < P 2 f ∨ P 2 f + P 1 f ≤ i → D5 132 i = D 132 i := fun i hi => by rw [s2 i hi, f14 132 (by decide), hF1 132 (by decide)]
  have e133 : ∀ k, ¬ blk P f k → D5 133 k = D 133 k := fun k hk => by rw [s4 k hk, f14 133 (by decide), hF1 133 (by decide)]
  have e135 : ∀ g, g ≠ f → D5 135 g = D 135 g := fun g hg => by rw [s7 g hg, f14 135 (by decide), hF1 135 (by decide)]
  rw [s_savedBy w d5 hf (fun a ha hfa => (df5.1 a ha hfa).1) (r1 := 132) (l := flat P f (tkf P f)) (fl_len w hf) (fun k hk => (fl_mem w hf).mp hk) s1, Option.bind_some, s_savedBy w d5 hf (fun a ha hfa => (df5.1 a ha hfa).1) (r1 := 7) (l := mbs P f) mbs_len (fun k hk => (mem_mbs w hf).mp hk) (fun i x hx => by
    obtain ⟨z1, z2⟩ := mbs_at hx
    rw [z2]
    exact d5.lis _ (by omega)), Option.bind_some, wp_bind]
  have hfin : ∀ D6 : DT, Fr [132, 133, 135] D5 D6 → (∀ (i x : Nat), (lin P f)[i]? = some x → D6 132 (P 2 f + i) = (x : Int)) → (∀ i, i < P 2 f ∨ P 2 f + P 1 f ≤ i → D6 132 i = D5 132 i) → (∀ k, blk P f k → D6 133 k = ((num P f k : Nat) : Int)) → (∀ k, ¬ blk P f k → D6 133 k = D5 133 k) → D6 135 f = ((grp P f : Nat) : Int) → (∀ g, g ≠ f → D6 135 g = D5 135 g) → wp ((m_X0_markCold (f : Int) D6).bind fun D16 => some D16) (fun D' => Fr [132, 133, 134, 135, 136, 137, 138, 139, 140] D D' ∧ DC P f D' ∧ ∀ g, g < P 0 0 → g ≠ f → DC P g D → DC P g D') := by
    intro D6 k0 k1 k2 k3 k4 k5 k6
    have d6 := d5.fr k0 (by decide)
    have df6 := DFc D6 ((k0 _ (by decide)).trans (f05 _ (by decide))) ((k0 _ (by decide)).trans (f05 _ (by decide))) ((k0 _ (by decide)).trans (f05 _ (by decide)))
    rw [wp_bind]
    refine wp_mono (s_markCold w d6 hf df6 k3) ?_
    rintro D7 ⟨j0, j1, j2⟩
    rw [wp_some]
    have q : ∀ c : Nat, c ≠ 134 → D7 c = D6 c := fun c z => j0 c (by simp [z])
    refine ⟨((f05.mo (by simp)).tr (k0.mo (by simp))).tr (j0.mo (by simp)), ⟨fun i x hx => by rw [q 132 (by decide)]; exact k1 i x hx, fun k hk => ⟨by rw [q 133 (by decide)]; exact k3 k hk, j1 k hk⟩, by rw [q 135 (by decide)]; exact k5⟩, fun g hg hgf hDC => ⟨fun i x hx => ?_, fun k hk => ?_, ?_⟩⟩
    · have hi : i < P 1 g := by rw [← lin_len w hg]; exact (List.getElem?_eq_some_iff.mp hx).1
      have hout : P 2 g + i < P 2 f ∨ P 2 f + P 1 f ≤ P 2 g + i := by
        by_cases z : g < f
        · have := seg w z hf; omega
        · have := seg w (g := f) (f := g) (by omega) hg; omega
      rw [q 132 (by decide), k2 _ hout, e132 _ hout]
      exact hDC.1 i x hx
    · have hnb : ¬ blk P f k := fun z => hgf (hk.2.symm.trans z.2)
      rw [q 133 (by decide), k4 k hnb, e133 k hnb, j2 k hnb, k0 134 (by decide), f05 134 (by decide)]
      exact hDC.2.1 k hk
    · rw [q 135 (by decide), k6 g hgf, e135 g hgf]
      exact hDC.2.2
  by_cases hb : byn P f
  · have hnlt : ¬ svl P (mbs P f) < svl P (flat P f (tkf P f)) := by unfold byn at hb; omega
    have elin : lin P f = mbs P f := if_pos hb
    have enum : ∀ k, num P f k = 0 := fun k => if_pos hb
    have egrp : grp P f = 1 := if_pos hb
    rw [if_neg hnlt, wp_bind]
    refine wp_mono (s_keepNumbers w d5 hf) ?_
    rintro D6 ⟨k0, k1, k2, k3, k4, k5, k6⟩
    rw [wp_some]
    refine hfin D6 k0 (fun i x hx => ?_) k2 (fun k hk => by rw [k3 k hk, enum]; rfl) k4 (by rw [k5, egrp]; rfl) k6
    rw [elin] at hx
    obtain ⟨z1, z2⟩ := mbs_at hx
    rw [z2]; exact k1 i z1
  · have hlt : svl P (mbs P f) < svl P (flat P f (tkf P f)) := by unfold byn at hb; omega
    have elin : lin P f = flat P f (tkf P f) := if_neg hb
    have enum : ∀ k, num P f k = (tkf P f).idxOf ((cf P f).2 k) := fun k => if_neg hb
    have egrp : grp P f = (tkf P f).length := if_neg hb
    rw [if_pos hlt, wp_some]
    refine hfin D5 Fr.rf (by rw [elin]; exact s1) (fun _ _ => rfl) (fun k hk => ?_) (fun _ _ => rfl) (by rw [egrp]; exact s6) (fun _ _ => rfl)
    have hmem := (mem_flat hT).mp ((fl_mem w hf).mpr hk)
    obtain ⟨j, hj, e⟩ := List.getElem_of_mem hmem
    have hj2 : (tkf P f)[j]? = some ((cf P f).2 k) := by rw [List.getElem?_eq_getElem hj, e]
    rw [s3 j _ k hj2 (ci_cf.1 k), enum, idx_at hT.1 hj2]
