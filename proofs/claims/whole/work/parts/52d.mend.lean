/-! ===== Flows.mend: all of it ===== -/
theorem s_some {D D0 : DT} {P : PG} (w : WF P) (d : DevP D0 4 P) {f : Nat} {m : List Nat} {φ : Nat → Int} (hm : SLm P f m) (hφ : FlowOK P m φ) (hrow : Row D0 126 m) {O : List Nat} (h : SV P f m φ D0 O D) : wp (m_X2_solveSome ((m.length : Nat) : Int) D) (fun t => ∃ O1, SV P f m φ D0 O1 t.2 ∧ ((t.1 = 0 ∧ O1 = []) ∨ (t.1 = 1 ∧ O1.length < O.length))) := by
  have hml := hm.len w
  have h88 := w.a88
  unfold m_X2_solveSome
  rw [wp_bind]
  refine wp_for m.length (fun i s => s.2.1 = (i : Int) ∧ ∃ O1, SV P f m φ D0 O1 s.2.2 ∧ ((s.1 = 0 ∧ O1 = O ∧ ∀ (j : Nat) (hj : j < m.length), j < i → m[j] ∈ O → ¬ can P O m[j]) ∨ (s.1 = 1 ∧ O1.length < O.length))) (Nat.zero_le _) ⟨rfl, O, h, Or.inl ⟨rfl, rfl, fun j _ hj => by omega⟩⟩ ?_
  rintro i ⟨fo, ii, D1⟩ hi ⟨g1, O1, hS, hc⟩
  simp only at g1 hS hc
  subst g1
  have d1 : DevP D1 4 P := d.fr hS.1 (by decide)
  have hrow1 : Row D1 126 m := hrow.cg (hS.1 126 (by decide))
  unfold b_X2_solveSome_4
  dsimp only
  rw [wp_ite]
  constructor
  rotate_left
  · intro q
    have : i = m.length := by omega
    subst this
    rw [wp_some, gd_r]
    dsimp only
    rcases hc with ⟨rfl, rfl, hc⟩ | ⟨rfl, hc⟩
    · rw [abit_0, Option.bind_some, wp_some]
      refine ⟨O1, hS, Or.inl ⟨rfl, ?_⟩⟩
      cases hO : O1 with
      | nil => rfl
      | cons z zs =>
        exfalso
        obtain ⟨_, _, _, _, _, _, h6, h7⟩ := id hS
        obtain ⟨x, a, e1, e2, e3, e4⟩ := fo_leaf (tl_fo (u := P 9) (v := P 10) (r := m.reverse)) (fun a => a ∈ O1) h7 ⟨z, by rw [hO]; exact List.mem_cons_self⟩ 40
        have huv : P 9 a ≠ P 10 a := tl_ne (h7 a e2)
        have ho := open_one h6 e2 huv e3 e4
        have ham : a ∈ m := List.mem_reverse.mp (tl_sub (h7 a e2))
        obtain ⟨j, hj, ej⟩ := List.getElem_of_mem ham
        refine hc j hj hj (by rw [ej]; exact e2) ?_
        rw [ej]
        rcases e3 with rfl | rfl
        · exact Or.inr ⟨e1, ho⟩
        · exact Or.inl ⟨e1, ho⟩
    · rw [abit_1, Option.bind_some, wp_some]
      exact ⟨O1, hS, Or.inr ⟨rfl, hc⟩⟩
  intro q
  have hi2 : i < m.length := by omega
  have ham : m[i] ∈ m := List.getElem_mem hi2
  have ham2 := (hm.mem _).mp ham
  obtain ⟨_, _, _, h3, _, _, h6, h7⟩ := id hS
  rw [ard_n (by omega), Option.bind_some, hrow1.at hi2, ard_n (by omega), Option.bind_some, h3 _ ham, wp_bind]
  by_cases hO : m[i] ∈ O1
  · rw [if_pos hO, if_neg (by decide), Option.bind_some, wp_bind]
    refine wp_mono (s_solve w d1 hm hφ hS hO) ?_
    rintro ⟨x, D2⟩ hx
    have hlen : (O1.erase m[i]).length < O1.length := by
      rw [List.length_erase_of_mem hO]
      have := List.length_pos_of_mem hO
      omega
    rcases hx with ⟨e1, e2⟩ | ⟨e1, e2, e3⟩
    · simp only at e1 e2
      subst e1
      dsimp only
      rw [if_neg (by decide), wp_some]
      dsimp only
      rw [wp_some, gd_l]
      refine ⟨hi2, w32_succ (by omega), O1.erase m[i], e2, Or.inr ⟨rfl, ?_⟩⟩
      rcases hc with ⟨_, rfl, _⟩ | ⟨_, hc⟩ <;> omega
    · simp only at e1 e2
      subst e1; subst e2
      dsimp only
      rw [if_pos rfl, wp_some]
      dsimp only
      rw [wp_some, gd_l]
      refine ⟨hi2, w32_succ (by omega), O1, hS, ?_⟩
      rcases hc with ⟨c1, rfl, hc⟩ | hc
      · refine Or.inl ⟨c1, rfl, fun j hj hji hjO => ?_⟩
        by_cases ej : j = i
        · subst ej; exact e3
        · exact hc j hj (by omega) hjO
      · exact Or.inr hc
  · rw [if_neg hO, if_pos rfl, wp_some]
    dsimp only
    rw [wp_some, gd_l]
    refine ⟨hi2, w32_succ (by omega), O1, hS, ?_⟩
    rcases hc with ⟨c1, rfl, hc⟩ | hc
    · refine Or.inl ⟨c1, rfl, fun j hj hji hjO => ?_⟩
      by_cases ej : j = i
      · subst ej; exact absurd hjO hO
      · exact hc j hj (by omega) hjO
    · exact Or.inr hc
theorem s_mend {D : DT} {P : PG} (w : WF P) (d : DevP D 4 P) {f : Nat} (hf : f < P 0 0) {φ : Nat → Int} (hφ : ∀ m, SLm P f m → FlowOK P m φ) : wp (m_X2_mend (f : Int) D) (fun D' => Fr [123, 124, 125, 126, 127, 128, 129, 130] D D' ∧ ∃ m, SLm P f m ∧ (∀ a ∈ m, D' 123 a = φ a ∧ D' 124 a = if a ∈ tl (P 9) (P 10) m.reverse then 1 else 0) ∧ (∀ a, a ∉ m → D' 123 a = D 123 a ∧ D' 124 a = D 124 a) ∧ (∀ b, b < P 0 1 → P 4 b = f → D' 125 b = ls (fun a => if P 10 a = b then φ a else 0) m) ∧ (∀ b, b < P 0 1 → P 4 b ≠ f → D' 125 b = D 125 b)) := by
  have h88 := w.a88; have h40 := w.b40
  unfold m_X2_mend
  rw [wp_bind]
  refine wp_mono (s_mlist w d hf) ?_
  rintro ⟨n, D2⟩ ⟨hF2, l, hn, hl, hrow⟩
  simp only at hF2 hn hrow
  subst hn
  dsimp only
  have d2 := d.fr hF2 (by decide)
  have hll := hl.len w
  rw [wp_bind]
  refine wp_mono (s_sort (rk := id) (key := fun a => ((P 11 a : Nat) : Int)) hrow (by decide) hll (by omega) (fun x hx => ?_) hl.1) ?_
  · have hx2 := ((hl.2 x).mp hx).1
    exact ⟨show x < 88 by omega, d2.cnt x hx2⟩
  rintro D3 ⟨hF3, m, hO, hrow3⟩
  have hm : SLm P f m := ⟨l, hl, hO⟩
  have hφm := hφ m hm
  have hlen : l.length = m.length := hO.1.length_eq.symm
  rw [hlen]
  have hml := hm.len w
  have d3 := d2.fr hF3 (by decide)
  rw [wp_bind]
  refine wp_mono (s_loosen w d3 hf) ?_
  rintro D4 ⟨hF4, a1, a2, a3⟩
  have d4 := d3.fr hF4 (by decide)
  have hrow4 : Row D4 126 m := hrow3.cg (hF4 126 (by decide))
  rw [wp_bind]
  refine wp_for m.length (fun i s => s.1 = (i : Int) ∧ LKr P f D4 (m.take i).reverse s.2) (Nat.zero_le _) ⟨rfl, Fr.rf, fun k hk => (a1 k hk).1, fun k hk => (a1 k hk).2.1, fun k hk => (a1 k hk).2.2, fun a ha => by simp at ha, fun a ha => by simp [rl] at ha, fun a _ => ⟨rfl, rfl⟩⟩ ?_
  rintro i ⟨ii, D5⟩ hi ⟨g1, hL⟩
  simp only at g1 hL
  subst g1
  unfold b_X2_mend_28
  dsimp only
  rw [wp_ite]
  constructor
  · intro q
    have hi2 : i < m.length := by omega
    have ham : m[i] ∈ m := List.getElem_mem hi2
    have ham2 := (hm.mem _).mp ham
    have d5 := d4.fr hL.1 (by decide)
    have hrow5 : Row D5 126 m := hrow4.cg (hL.1 126 (by decide))
    rw [ard_n (by omega), Option.bind_some, hrow5.at hi2, wp_bind]
    refine wp_mono (s_look w d5 hf (r := (m.take i).reverse) (fun b hb => ((hm.mem b).mp (List.mem_of_mem_take (List.mem_reverse.mp hb))).1) (by rw [List.length_reverse, List.length_take]; omega) ham2.1 ham2.2 ?_ hL) ?_
    · intro hc
      obtain ⟨j, hj, ej⟩ := List.mem_take_iff_getElem.mp (List.mem_reverse.mp hc)
      have := (List.nodup_iff_pairwise_ne.mp hm.nodup)
      exact List.pairwise_iff_getElem.mp this j i (by omega) hi2 (by omega) ej
    intro D6 h6
    rw [wp_some, gd_l]
    refine ⟨hi2, w32_succ (by omega), ?_⟩
    rw [List.take_succ_eq_append_getElem hi2, List.reverse_append]
    exact h6
  intro q
  have : i = m.length := by omega
  subst this
  rw [List.take_length] at hL
  obtain ⟨hF5, b1, b2, b3, b4, b5, b6⟩ := hL
  have hmr : m.reverse.Nodup := List.Nodup.perm hm.nodup (List.reverse_perm m).symm
  have hSV : SV P f m φ D5 (tl (P 9) (P 10) m.reverse) D5 := by
    refine ⟨Fr.rf, b2, fun k hk => ?_, fun a ha => (b4 a (List.mem_reverse.mpr ha)).2, fun a ha haT => ?_, fun _ _ => rfl, tl_nodup hmr, fun _ h => h⟩
    · rw [b3 k hk]
      have e1 := hφm.2.1 k (nd_lt w hk)
      rw [← ls_perm (List.reverse_perm m), rl_sum (u := P 9) (v := P 10)] at e1
      have e2 : ls (nt (P 9) (P 10) φ k) (rl (P 9) (P 10) m.reverse) = ls (nt (P 9) (P 10) (fun a => ((P 11 a : Nat) : Int)) k) (rl (P 9) (P 10) m.reverse) := ls_congr (fun a ha => by
        simp only [nt]
        rw [hφm.1 a (List.mem_reverse.mp (rl_sub ha)) (rl_not hmr ha)])
      omega
    · rw [hφm.1 a ha haT]
      have : a ∈ rl (P 9) (P 10) m.reverse := rl_in (List.mem_reverse.mpr ha) haT
      exact b5 a this
  rw [wp_some, gd_r, wp_bind]
  have d5 := d4.fr hF5 (by decide)
  have hrow5 : Row D5 126 m := hrow4.cg (hF5 126 (by decide))
  refine wp_for m.length (fun p s => s.2.1 = (p : Int) ∧ ∃ O1, SV P f m φ D5 O1 s.2.2 ∧ ((s.1 = 0 ∧ O1 = []) ∨ (s.1 = 1 ∧ O1.length + p ≤ m.length))) (Nat.zero_le _) ⟨rfl, _, hSV, Or.inr ⟨rfl, ?_⟩⟩ ?_
  · have := tl_len (u := P 9) (v := P 10) (r := m.reverse)
    rw [List.length_reverse] at this
    exact this
  rintro p ⟨fo, pp, D6⟩ hp ⟨g1, O1, hS, hc⟩
  simp only at g1 hS hc
  subst g1
  have hend : O1 = [] → wp ((loop (b_X2_mend_80 (m.length : Int)) (0, D6)).bind fun D31 => some D31) (fun D' => Fr [123, 124, 125, 126, 127, 128, 129, 130] D D' ∧ ∃ m, SLm P f m ∧ (∀ a ∈ m, D' 123 a = φ a ∧ D' 124 a = if a ∈ tl (P 9) (P 10) m.reverse then 1 else 0) ∧ (∀ a, a ∉ m → D' 123 a = D 123 a ∧ D' 124 a = D 124 a) ∧ (∀ b, b < P 0 1 → P 4 b = f → D' 125 b = ls (fun a => if P 10 a = b then φ a else 0) m) ∧ (∀ b, b < P 0 1 → P 4 b ≠ f → D' 125 b = D 125 b)) := by
    intro hO1
    subst hO1
    obtain ⟨hF6, c1, c2, c3, c4, c5, c6, c7⟩ := hS
    have d6 := d5.fr hF6 (by decide)
    have hrow6 : Row D6 126 m := hrow5.cg (hF6 126 (by decide))
    have hall : Fr [123, 124, 125, 126, 127, 128, 129, 130] D D6 := ((((hF2.mo (by simp)).tr (hF3.mo (by simp))).tr (hF4.mo (by simp))).tr (hF5.mo (by simp))).tr (hF6.mo (by simp))
    have e123 : ∀ a, a ∉ m → D6 123 a = D 123 a := fun a ha => by
      rw [c5 a ha, (b6 a (fun q => ha (List.mem_reverse.mp q))).1, hF4 123 (by decide), hF3 123 (by decide), hF2 123 (by decide)]
    have e124 : ∀ a, a ∉ m → D6 124 a = D 124 a := fun a ha => by
      rw [hF6 124 (by decide), (b6 a (fun q => ha (List.mem_reverse.mp q))).2, hF4 124 (by decide), hF3 124 (by decide), hF2 124 (by decide)]
    have e125 : D6 125 = D4 125 := by rw [hF6 125 (by decide), hF5 125 (by decide)]
    rw [wp_bind]
    refine wp_for m.length (fun i s => s.1 = (i : Int) ∧ Fr [125] D6 s.2 ∧ (∀ b, b < P 0 1 → P 4 b = f → s.2 125 b = ls (fun a => if P 10 a = b then φ a else 0) (m.take i)) ∧ (∀ b, b < P 0 1 → P 4 b ≠ f → s.2 125 b = D 125 b)) (Nat.zero_le _) ⟨rfl, Fr.rf, fun b hb ho => by show D6 125 b = _; rw [e125, a2 b hb ho]; rfl, fun b hb ho => by show D6 125 b = _; rw [e125, a3 b hb ho, hF3 125 (by decide), hF2 125 (by decide)]⟩ ?_
    rintro i ⟨ii, D7⟩ hi ⟨g1, hF7, k1, k2⟩
    simp only at g1 hF7 k1 k2
    subst g1
    unfold b_X2_mend_80
    dsimp only
    rw [wp_ite]
    constructor
    · intro q
      have hi2 : i < m.length := by omega
      have ham : m[i] ∈ m := List.getElem_mem hi2
      have ham2 := (hm.mem _).mp ham
      have d7 := d6.fr hF7 (by decide)
      have hrow7 : Row D7 126 m := hrow6.cg (hF7 126 (by decide))
      have hphi : D7 123 m[i] = φ m[i] := by rw [hF7 123 (by decide)]; exact c4 _ ham (by simp)
      have hnew : ∀ b, ls (fun a => if P 10 a = b then φ a else 0) (m.take (i + 1)) = ls (fun a => if P 10 a = b then φ a else 0) (m.take i) + (if P 10 m[i] = b then φ m[i] else 0) := fun b => by
        rw [List.take_succ_eq_append_getElem hi2, ls_append]; simp only [ls]; omega
      rw [ard_n (by omega), Option.bind_some, hrow7.at hi2, ard_n (by omega), Option.bind_some, d7.to _ ham2.1, wp_bind]
      by_cases hv : P 10 m[i] = 40
      · rw [if_pos (nz_m1.mpr hv), wp_some, wp_some, gd_l]
        refine ⟨hi2, w32_succ (by omega), hF7, fun b hb ho => ?_, k2⟩
        show D7 125 b = _
        rw [hnew b, if_neg (by omega), k1 b hb ho]; omega
      · have hvo := (w.vo ham2.1).resolve_left hv
        rw [if_neg (fun e => hv (nz_m1.mp e)), nz_ne hv, ard_n (by omega), Option.bind_some, Option.bind_some, ard_n (by omega), Option.bind_some, hphi, awr_n (by omega), Option.bind_some, wp_some, wp_some, gd_l]
        have hb0 := hφm.2.2 _ ham
        have hbs := ls_bound (f := fun a => if P 10 a = P 10 m[i] then φ a else 0) (B := 1759824) (l := m.take i) (fun b hb => by
          have := hφm.2.2 b (List.mem_of_mem_take hb)
          show _ ≤ ite _ _ _ ∧ ite _ _ _ ≤ _
          split <;> constructor <;> omega)
        have hlt : (m.take i).length ≤ 88 := by rw [List.length_take]; omega
        have hk1 := k1 _ hvo.1 (hvo.2.trans ham2.2)
        refine ⟨hi2, w32_succ (by omega), hF7.put (by simp), fun b hb ho => ?_, fun b hb ho => ?_⟩
        · show dput D7 125 _ _ 125 b = _
          rw [hnew b]
          by_cases e : b = P 10 m[i]
          · subst e
            rw [dput_ss, if_pos rfl, hk1, w32_id (by omega) (by omega)]
          · rw [dput_sn _ e, if_neg (fun q => e q.symm), k1 b hb ho]; omega
        · show dput D7 125 _ _ 125 b = _
          rw [dput_sn _ (fun e => ho (by rw [e, hvo.2, ham2.2]))]
          exact k2 b hb ho
    · intro q
      have : i = m.length := by omega
      subst this
      rw [List.take_length] at k1
      rw [wp_some, gd_r, wp_some]
      refine ⟨hall.tr (hF7.mo (by simp)), m, hm, fun a ha => ⟨?_, ?_⟩, fun a ha => ⟨?_, ?_⟩, k1, k2⟩
      · rw [hF7 123 (by decide)]; exact c4 a ha (by simp)
      · rw [hF7 124 (by decide), hF6 124 (by decide)]; exact (b4 a (List.mem_reverse.mpr ha)).1
      · rw [hF7 123 (by decide)]; exact e123 a ha
      · rw [hF7 124 (by decide)]; exact e124 a ha
  unfold b_X2_mend_55
  dsimp only
  rw [wp_ite]
  constructor
  · intro q
    have hp2 : p < m.length := by omega
    rw [wp_ite]
    constructor
    · intro e
      rw [wp_some, gd_r]
      rcases hc with ⟨_, hc⟩ | ⟨e2, _⟩
      · exact hend hc
      · omega
    · intro e
      have hc2 : O1.length + p ≤ m.length := by
        rcases hc with ⟨e2, _⟩ | ⟨_, hc⟩
        · exact absurd e2 e
        · exact hc
      rw [wp_bind]
      refine wp_mono (s_some w d5 hm hφm hrow5 hS) ?_
      rintro ⟨x, D7⟩ ⟨O2, hS2, hx⟩
      dsimp only
      rw [wp_some, gd_l]
      refine ⟨hp2, w32_succ (by omega), O2, hS2, ?_⟩
      rcases hx with hx | ⟨hx, hx2⟩
      · exact Or.inl hx
      · exact Or.inr ⟨hx, by omega⟩
  · intro q
    rw [wp_some, gd_r]
    refine hend ?_
    rcases hc with ⟨_, hc⟩ | ⟨_, hc⟩
    · exact hc
    · exact List.length_eq_zero_iff.mp (by omega)
