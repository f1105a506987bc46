/-! ===== the reference: laysFlows, all of it ===== -/
def RFl (P : PG) (D : DT) : Prop := (∀ a, a < P 0 2 → D 189 a = phi P a ∧ (D 192 a = 1 ∧ tak P a ∨ D 192 a = 0 ∧ ¬ tak P a)) ∧ ∀ b, b < P 0 1 → D 190 b = heat P b
theorem r_pass {D D0 : DT} {P : PG} (w : WF P) (r : RefP D0 0 P) {O : List Nat} (h : RS P D0 O D) : wp (loop b_X12_laysFlows_54 (0, 0, D)) (fun t => ∃ O1, RS P D0 O1 t.2 ∧ ((t.1 = 0 ∧ O1 = []) ∨ (t.1 = 1 ∧ O1.length < O.length))) := by
  have h88 := w.a88; have h40 := w.b40
  refine wp_for (P 0 1) (fun j s => s.2.1 = (j : Int) ∧ ∃ O1, RS P D0 O1 s.2.2 ∧ ((s.1 = 0 ∧ O1 = O ∧ ∀ b a, b < j → ¬ uniq P O b a) ∨ (s.1 = 1 ∧ O1.length < O.length))) (Nat.zero_le _) ⟨rfl, O, h, Or.inl ⟨rfl, rfl, fun b a hb => by omega⟩⟩ ?_
  rintro j ⟨mo, jj, D1⟩ hj ⟨g1, O1, hS, hc⟩
  simp only at g1 hS hc
  subst g1
  have r1 : RefP D1 0 P := r.cg (hS.1 188 (by decide))
  unfold b_X12_laysFlows_54
  dsimp only
  rw [r_blocks r1, Option.bind_some, wp_ite]
  constructor
  rotate_left
  · intro q
    have : j = P 0 1 := by omega
    subst this
    rw [wp_some, gd_r]
    refine ⟨O1, hS, ?_⟩
    rcases hc with ⟨e, rfl, hc⟩ | hc
    · refine Or.inl ⟨e, ?_⟩
      cases hO : O1 with
      | nil => rfl
      | cons z zs =>
        exfalso
        obtain ⟨b, a, hb, hu⟩ := leaf_all w hS.2.2.2.2 (by rw [hO]; simp)
        exact hc b a hb hu
    · exact Or.inr hc
  intro q
  have hj2 : j < P 0 1 := by omega
  rw [wp_bind]
  refine wp_mono (r_openAt w r1 hS hj2) ?_
  intro x hx
  rcases hx with ⟨e, hx⟩ | ⟨a, e, hu⟩
  · subst e
    rw [if_pos (by decide), Option.bind_some]
    dsimp only
    rw [wp_some, gd_l]
    refine ⟨hj2, w32_succ (by omega), O1, hS, ?_⟩
    rcases hc with ⟨e, rfl, hc⟩ | hc
    · refine Or.inl ⟨e, rfl, fun b a hb hu => ?_⟩
      by_cases z : b = j
      · subst z; exact hx a hu
      · exact hc b a (by omega) hu
    · exact Or.inr hc
  · subst e
    obtain ⟨hF, h1, h2, h3, h4⟩ := id hS
    have ha := h4 a hu.1
    have hne := tak_ne ha.2
    have hov := r_overAt w r1 (p := a) hj2 (fun y hy hya hyb => by
      have : y ∉ O1 := fun z => hya (hu.2.2 y z hyb)
      rw [h2 y hy this]; exact phi_bd w hy)
    rw [over_phi w hS hj2 hu] at hov
    have hb := phi_bd w ha.1
    have hval : (P 9 a = j → - nt (P 9) (P 10) (phi P) j a = phi P a) ∧ (P 9 a ≠ j → w32 (-(- nt (P 9) (P 10) (phi P) j a)) = phi P a) := by
      constructor
      · intro e
        unfold nt
        rw [if_pos e, if_neg (fun z => hne (e.trans z.symm))]; omega
      · intro e
        have e2 : P 10 a = j := hu.2.1.resolve_left e
        unfold nt
        rw [if_neg e, if_pos e2, w32_id (by omega) (by omega)]; omega
    have hlen : (O1.erase a).length < O.length := by
      rw [List.length_erase_of_mem hu.1]
      have := List.length_pos_of_mem hu.1
      rcases hc with ⟨_, rfl, _⟩ | ⟨_, hc⟩ <;> omega
    have hmem : ∀ b, b ∈ O1.erase a ↔ b ≠ a ∧ b ∈ O1 := fun b => List.Nodup.mem_erase_iff h3
    have hS2 : RS P D0 (O1.erase a) (dput (dput D1 189 a (phi P a)) 193 a 0) := by
      refine ⟨(hF.put (by simp)).put (by simp), fun y hy => ?_, fun y hy hyO => ?_, h3.erase a, fun y hy => h4 y ((hmem y).mp hy).2⟩
      · rw [dput_eq]
        by_cases e : y = a
        · subst e
          rw [if_pos ⟨rfl, rfl⟩, if_neg (fun q => ((hmem y).mp q).1 rfl)]
        · rw [if_neg (fun q => e q.2), dput_nb _ (by decide), h1 y hy]
          by_cases z : y ∈ O1
          · rw [if_pos z, if_pos ((hmem y).mpr ⟨e, z⟩)]
          · rw [if_neg z, if_neg (fun q => z ((hmem y).mp q).2)]
      · rw [dput_nb _ (by decide), dput_eq]
        by_cases e : y = a
        · subst e; rw [if_pos ⟨rfl, rfl⟩]
        · rw [if_neg (fun q => e q.2)]
          exact h2 y hy (fun q => hyO ((hmem y).mpr ⟨e, q⟩))
    have hfin : wp (some (Sum.inl (β := Int × DT) ((1 : Int), w32 ((j : Int) + 1), dput (dput D1 189 a (phi P a)) 193 a 0))) (fun t => gd t (fun s' => j < P 0 1 ∧ s'.2.1 = ((j + 1 : Nat) : Int) ∧ ∃ O1, RS P D0 O1 s'.2.2 ∧ ((s'.1 = 0 ∧ O1 = O ∧ ∀ b a, b < j + 1 → ¬ uniq P O b a) ∨ (s'.1 = 1 ∧ O1.length < O.length))) (fun t => ∃ O1, RS P D0 O1 t.2 ∧ ((t.1 = 0 ∧ O1 = []) ∨ (t.1 = 1 ∧ O1.length < O.length)))) := by
      rw [wp_some, gd_l]
      exact ⟨hj2, w32_succ (by omega), _, hS2, Or.inr ⟨rfl, hlen⟩⟩
    rw [if_neg (by omega), r_from w r1 ha.1, Option.bind_some]
    by_cases e : P 9 a = j
    · rw [if_pos ((nz_b (by omega)).mpr e), hov, Option.bind_some, Option.bind_some, hval.1 e, awr_n (by omega), Option.bind_some, abit_0, Option.bind_some, awr_n (by omega), Option.bind_some, Option.bind_some]
      exact hfin
    · rw [if_neg (fun z => e ((nz_b (by omega)).mp z)), hov, Option.bind_some, Option.bind_some, hval.2 e, awr_n (by omega), Option.bind_some, abit_0, Option.bind_some, awr_n (by omega), Option.bind_some, Option.bind_some]
      exact hfin
theorem r_laysFlows {D : DT} {P : PG} (w : WF P) (r : RefP D 0 P) : wp (m_X12_laysFlows D) (fun D' => Fr [189, 190, 191, 192, 193, 194] D D' ∧ RFl P D') := by
  have h88 := w.a88; have h40 := w.b40; have h8 := w.f8
  unfold m_X12_laysFlows
  rw [wp_bind]
  refine wp_for (P 0 2) (fun j s => s.1 = (j : Int) ∧ Fr [194] D s.2 ∧ ∀ a, a < j → s.2 194 a = 0) (Nat.zero_le _) ⟨rfl, Fr.rf, fun a ha => by omega⟩ ?_
  rintro j ⟨jj, D1⟩ hj ⟨g1, hF1, hA⟩
  simp only at g1 hF1 hA
  subst g1
  have r1 : RefP D1 0 P := r.cg (hF1 188 (by decide))
  unfold b_X12_laysFlows_2
  dsimp only
  rw [r_arcs r1, Option.bind_some, wp_ite]
  constructor
  · intro q
    rw [abit_0, Option.bind_some, awr_n (by omega), Option.bind_some, wp_some, gd_l]
    refine ⟨by omega, w32_succ (by omega), hF1.put (by simp), fun a ha => ?_⟩
    show dput D1 194 j 0 194 a = 0
    by_cases e : a = j
    · subst e; rw [dput_ss]
    · rw [dput_sn _ e]; exact hA a (by omega)
  intro q
  have hj : j = P 0 2 := by omega
  subst hj
  clear q
  rw [wp_some, gd_r, wp_bind]
  refine wp_for (P 0 0) (fun f s => s.1 = (f : Int) ∧ Fr [189, 191, 192, 193, 194] D s.2 ∧ (∀ a, a < P 0 2 → fn P a < f → s.2 189 a = ((P 11 a : Nat) : Int) ∧ (s.2 192 a = 1 ∧ s.2 193 a = 1 ∧ tak P a ∨ s.2 192 a = 0 ∧ s.2 193 a = 0 ∧ ¬ tak P a)) ∧ ∀ a, a < P 0 2 → f ≤ fn P a → s.2 194 a = 0) (Nat.zero_le _) ⟨rfl, hF1.mo (by simp), fun a _ hf => by omega, fun a ha _ => hA a ha⟩ ?_
  rintro f ⟨ff, D2⟩ hf ⟨g1, hF2, hB, hC⟩
  simp only at g1 hF2 hB hC
  subst g1
  have r2 : RefP D2 0 P := r.cg (hF2 188 (by decide))
  unfold b_X12_laysFlows_25
  dsimp only
  rw [r_funs r2, Option.bind_some, wp_ite]
  constructor
  · intro q
    have hf2 : f < P 0 0 := by omega
    obtain ⟨m, hm⟩ := slm_ex (P := P) f
    rw [wp_bind]
    refine wp_mono (r_takesArcs w r2 hf2 hm (fun a ha hfa => hC a ha (by omega))) ?_
    rintro D3 ⟨D0, hF0, hT⟩
    obtain ⟨k1, k2, k3, k4, k5⟩ := hT
    have e0 : ∀ c : Nat, c ≠ 191 → D0 c = D2 c := fun c z => hF0 c (by simp [z])
    rw [wp_some, gd_l]
    refine ⟨hf2, w32_succ (by omega), (hF2.tr (hF0.mo (by simp))).tr k1, fun a ha hfa => ?_, fun a ha hfa => ?_⟩
    · show D3 189 a = _ ∧ (D3 192 a = 1 ∧ D3 193 a = 1 ∧ tak P a ∨ D3 192 a = 0 ∧ D3 193 a = 0 ∧ ¬ tak P a)
      by_cases e : fn P a = f
      · have ham := (hm.mem a).mpr ⟨ha, e⟩
        obtain ⟨z1, z2, z3⟩ := k4 a (List.mem_reverse.mpr ham)
        refine ⟨z1, ?_⟩
        rw [z2, z3, tak_iff hm ham]
        by_cases z : a ∈ tl (P 9) (P 10) m.reverse
        · rw [if_pos z]; exact Or.inl ⟨rfl, rfl, z⟩
        · rw [if_neg z]; exact Or.inr ⟨rfl, rfl, z⟩
      · have ham : a ∉ m.reverse := fun z => e ((hm.mem a).mp (List.mem_reverse.mp z)).2
        obtain ⟨z1, z2, z3, z4⟩ := k5 a ham
        rw [z1, z2, z3, e0 189 (by decide), e0 192 (by decide), e0 193 (by decide)]
        exact hB a ha (by omega)
    · show D3 194 a = 0
      have ham : a ∉ m.reverse := fun z => by
        have := ((hm.mem a).mp (List.mem_reverse.mp z)).2
        omega
      obtain ⟨z1, z2, z3, z4⟩ := k5 a ham
      rw [z4, e0 194 (by decide)]
      exact hC a ha (by omega)
  intro q
  have hf : f = P 0 0 := by omega
  subst hf
  clear q
  have hB2 : ∀ a, a < P 0 2 → D2 189 a = ((P 11 a : Nat) : Int) ∧ (D2 192 a = 1 ∧ D2 193 a = 1 ∧ tak P a ∨ D2 192 a = 0 ∧ D2 193 a = 0 ∧ ¬ tak P a) := fun a ha => hB a ha (w.fnl ha)
  have hS0 : ∃ O, RS P D2 O D2 := by
    refine ⟨(List.range (P 0 2)).filter (fun a => @decide (tak P a) (Classical.propDecidable _)), Fr.rf, fun a ha => ?_, fun a ha hn => ?_, List.Pairwise.filter _ List.nodup_range, fun a ha => ?_⟩
    · have hmem : a ∈ (List.range (P 0 2)).filter (fun a => @decide (tak P a) (Classical.propDecidable _)) ↔ tak P a := by
        rw [List.mem_filter, List.mem_range, @decide_eq_true_iff _ (Classical.propDecidable _)]; exact ⟨fun z => z.2, fun z => ⟨ha, z⟩⟩
      rcases (hB2 a ha).2 with ⟨_, z, t⟩ | ⟨_, z, t⟩
      · rw [z, if_pos (hmem.mpr t)]
      · rw [z, if_neg (fun q => t (hmem.mp q))]
    · have hnt : ¬ tak P a := fun t => hn (by rw [List.mem_filter, List.mem_range, @decide_eq_true_iff _ (Classical.propDecidable _)]; exact ⟨ha, t⟩)
      obtain ⟨m, hm⟩ := slm_ex (P := P) (fn P a)
      have ham := (hm.mem a).mpr ⟨ha, rfl⟩
      rw [(hB2 a ha).1, (phi_ok w _ (w.fnl ha) m hm).1 a ham (fun z => hnt ((tak_iff hm ham).mpr z))]
    · rw [List.mem_filter, List.mem_range, @decide_eq_true_iff _ (Classical.propDecidable _)] at ha
      exact ha
  obtain ⟨O, hS⟩ := hS0
  rw [wp_some, gd_r, wp_bind]
  have hrest : ∀ D3, RS P D2 [] D3 → wp ((loop b_X12_laysFlows_131 (0, D3)).bind fun D46 => (loop b_X12_laysFlows_154 (0, D46)).bind fun D57 => some D57) (fun D' => Fr [189, 190, 191, 192, 193, 194] D D' ∧ RFl P D') := by
    rintro D3 ⟨hF3, c1, c2, c3, c4⟩
    have r3 : RefP D3 0 P := r2.cg (hF3 188 (by decide))
    rw [wp_bind]
    refine wp_for (P 0 1) (fun j s => s.1 = (j : Int) ∧ Fr [190] D3 s.2 ∧ ∀ b, b < j → s.2 190 b = 0) (Nat.zero_le _) ⟨rfl, Fr.rf, fun a ha => by omega⟩ ?_
    rintro j ⟨jj, D4⟩ hj ⟨g1, hF4, hA4⟩
    simp only at g1 hF4 hA4
    subst g1
    have r4 : RefP D4 0 P := r3.cg (hF4 188 (by decide))
    unfold b_X12_laysFlows_131
    dsimp only
    rw [r_blocks r4, Option.bind_some, wp_ite]
    constructor
    · intro q
      rw [awr_n (by omega), Option.bind_some, wp_some, gd_l]
      refine ⟨by omega, w32_succ (by omega), hF4.put (by simp), fun a ha => ?_⟩
      show dput D4 190 j 0 190 a = 0
      by_cases e : a = j
      · subst e; rw [dput_ss]
      · rw [dput_sn _ e]; exact hA4 a (by omega)
    intro q
    have hj : j = P 0 1 := by omega
    subst hj
    clear q
    rw [wp_some, gd_r, wp_bind]
    refine wp_for (P 0 2) (fun j s => s.1 = (j : Int) ∧ Fr [190] D3 s.2 ∧ ∀ b, b < P 0 1 → s.2 190 b = sg (fun a => if P 10 a = b then phi P a else 0) j) (Nat.zero_le _) ⟨rfl, hF4, fun b hb => hA4 b hb⟩ ?_
    rintro j ⟨jj, D5⟩ hj ⟨g1, hF5, hA5⟩
    simp only at g1 hF5 hA5
    subst g1
    have r5 : RefP D5 0 P := r3.cg (hF5 188 (by decide))
    have e189 : D5 189 = D3 189 := hF5 189 (by decide)
    unfold b_X12_laysFlows_154
    dsimp only
    rw [r_arcs r5, Option.bind_some, wp_ite]
    constructor
    · intro q
      have hj2 : j < P 0 2 := by omega
      rw [r_to w r5 hj2, Option.bind_some, wp_bind]
      by_cases e : P 10 j = 40
      · rw [if_pos (by rw [e, nz_eq]; decide), wp_some, wp_some, gd_l]
        refine ⟨hj2, w32_succ (by omega), hF5, fun b hb => ?_⟩
        show D5 190 b = sg _ j + _
        rw [hA5 b hb]
        dsimp only
        rw [if_neg (by omega)]; omega
      · have hv := (w.vo hj2).resolve_left e
        have hbs := sg_bound (f := fun a => if P 10 a = P 10 j then phi P a else 0) (B := 1759824) (n := j) (fun k hk => by
          have := phi_bd w (a := k) (by omega)
          show _ ≤ ite _ _ _ ∧ ite _ _ _ ≤ _
          split <;> constructor <;> omega)
        have hbj := phi_bd w hj2
        rw [nz_ne e, if_neg (by omega), Option.bind_some, ard_n (by omega), Option.bind_some, ard_n (by omega), Option.bind_some, awr_n (by omega), Option.bind_some, wp_some, wp_some, gd_l, e189, c2 j hj2 (by simp), hA5 _ hv.1]
        refine ⟨hj2, w32_succ (by omega), hF5.put (by simp), fun b hb => ?_⟩
        show dput D5 190 _ _ 190 b = sg _ j + _
        dsimp only
        by_cases z : b = P 10 j
        · subst z
          rw [dput_ss, if_pos rfl, w32_id (by omega) (by omega)]
        · rw [dput_sn _ z, hA5 b hb, if_neg (fun q => z q.symm)]; omega
    · intro q
      have hj : j = P 0 2 := by omega
      subst hj
      rw [wp_some, gd_r, wp_some]
      refine ⟨((hF2.mo (by simp)).tr (hF3.mo (by simp))).tr (hF5.mo (by simp)), fun a ha => ⟨?_, ?_⟩, hA5⟩
      · rw [e189]; exact c2 a ha (by simp)
      · rw [hF5 192 (by decide), hF3 192 (by decide)]
        rcases (hB2 a ha).2 with ⟨z, _, t⟩ | ⟨z, _, t⟩
        · exact Or.inl ⟨z, t⟩
        · exact Or.inr ⟨z, t⟩
  refine wp_loop (fun n s => ∃ O1, RS P D2 O1 s.2 ∧ ((s.1 = 0 ∧ O1 = [] ∧ n = 0) ∨ (s.1 = 1 ∧ n = O1.length + 1))) ?_ (O.length + 1) _ ⟨O, hS, Or.inr ⟨rfl, rfl⟩⟩
  rintro n ⟨mo, D3⟩ ⟨O1, hS1, hc⟩
  simp only at hS1 hc
  unfold b_X12_laysFlows_46
  dsimp only
  rw [wp_ite]
  constructor
  · intro e
    rw [wp_some, gd_r]
    rcases hc with ⟨_, rfl, _⟩ | ⟨e2, _⟩
    · exact hrest D3 hS1
    · omega
  · intro e
    rcases hc with ⟨e2, _, _⟩ | ⟨e2, hn⟩
    · exact absurd e2 e
    rw [wp_bind]
    refine wp_mono (r_pass w r2 hS1) ?_
    rintro ⟨x, D4⟩ ⟨O2, hS2, hx⟩
    dsimp only
    rw [wp_some, gd_l]
    rcases hx with ⟨z1, z2⟩ | ⟨z1, z2⟩
    · exact ⟨0, by omega, O2, hS2, Or.inl ⟨z1, z2, rfl⟩⟩
    · exact ⟨O2.length + 1, by omega, O2, hS2, Or.inr ⟨z1, rfl⟩⟩
