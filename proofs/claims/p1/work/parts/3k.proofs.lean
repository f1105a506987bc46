set_option maxRecDepth 100000 in
set_option maxHeartbeats 4000000 in
theorem e_X12_fault (L0 d : Nat) (hd : 1 ≤ d) {p1 : Int} {D : DT} {t0 : (Int × DT)} (h : m_X12_fault p1 D = some t0) : Ret mtab d 246 [.inr (.inr 187), .inl p1] (SH L0, D) (some (.inl t0.1), (SH L0, t0.2)) := by
  obtain ⟨d, rfl⟩ : ∃ e, d = e + 1 := ⟨d - 1, by omega⟩
  refine Ret.of (code := k_X12_fault) (ml := 2) rfl ?_
  show EvF mtab d k_X12_fault 0 [some (.inr (.inr 187)), some (.inl p1)] [] (SH L0, D) (some (.inl t0.1), (SH L0, t0.2))
  unfold m_X12_fault at h
  rcases ite_or h with ⟨hc, h⟩ | ⟨hc, h⟩
  · refine ev_ift hc 5 (pc' := 9) (L' := [some (.inr (.inr 187)), some (.inl p1)]) (S' := []) (σ' := (SH L0, dput D 187 3 0)) (fun _ _ => rfl) ?_
    cases h
    exact ev_ret 4 (fun _ _ => rfl)
  · refine ev_iff hc 5 (pc' := 16) (L' := [some (.inr (.inr 187)), some (.inl p1)]) (S' := []) (σ' := (SH L0, dput D 187 3 0)) (fun _ _ => rfl) ?_
    rcases ite_or h with ⟨hc, h⟩ | ⟨hc, h⟩
    · refine ev_ift hc 3 (pc' := 21) (L' := [some (.inr (.inr 187)), some (.inl p1)]) (S' := []) (σ' := (SH L0, dput D 187 3 0)) (fun _ _ => rfl) ?_
      cases h
      exact ev_ret 4 (fun _ _ => rfl)
    · refine ev_iff hc 3 (pc' := 28) (L' := [some (.inr (.inr 187)), some (.inl p1)]) (S' := []) (σ' := (SH L0, dput D 187 3 0)) (fun _ _ => rfl) ?_
      cases h
      exact ev_ret 2 (fun _ _ => rfl)
set_option maxRecDepth 100000 in
set_option maxHeartbeats 4000000 in
theorem e_X12_isFun (L0 d : Nat) (hd : 2 ≤ d) {p1 : Int} {D : DT} {t0 : Int} (h : m_X12_isFun p1 D = some t0) : Ret mtab d 247 [.inr (.inr 187), .inl p1] (SH L0, D) (some (.inl t0), (SH L0, D)) := by
  obtain ⟨d, rfl⟩ : ∃ e, d = e + 1 := ⟨d - 1, by omega⟩
  refine Ret.of (code := k_X12_isFun) (ml := 2) rfl ?_
  show EvF mtab d k_X12_isFun 0 [some (.inr (.inr 187)), some (.inl p1)] [] (SH L0, D) (some (.inl t0), (SH L0, D))
  unfold m_X12_isFun at h
  obtain ⟨x1, hx, h⟩ := bnd h
  refine ev_call (e_X12_funs L0 d (by omega) hx) 4 (pc' := 6) (L' := [some (.inr (.inr 187)), some (.inl p1)]) (S' := [.inl 0, .inl p1]) (fun _ _ => rfl) ?_
  obtain ⟨x2, hx, h⟩ := bnd h
  refine ev_call (e_X12_isIn L0 d (by omega) hx) 3 (pc' := 11) (L' := [some (.inr (.inr 187)), some (.inl p1)]) (S' := []) (fun _ _ => rfl) ?_
  obtain ⟨x3, hx, h⟩ := bnd h
  cases h
  exact ev_brt hx 1 (fun _ _ => rfl)
set_option maxRecDepth 100000 in
set_option maxHeartbeats 4000000 in
theorem e_X12_isBlock (L0 d : Nat) (hd : 2 ≤ d) {p1 : Int} {D : DT} {t0 : Int} (h : m_X12_isBlock p1 D = some t0) : Ret mtab d 248 [.inr (.inr 187), .inl p1] (SH L0, D) (some (.inl t0), (SH L0, D)) := by
  obtain ⟨d, rfl⟩ : ∃ e, d = e + 1 := ⟨d - 1, by omega⟩
  refine Ret.of (code := k_X12_isBlock) (ml := 2) rfl ?_
  show EvF mtab d k_X12_isBlock 0 [some (.inr (.inr 187)), some (.inl p1)] [] (SH L0, D) (some (.inl t0), (SH L0, D))
  unfold m_X12_isBlock at h
  obtain ⟨x1, hx, h⟩ := bnd h
  refine ev_call (e_X12_blocks L0 d (by omega) hx) 4 (pc' := 6) (L' := [some (.inr (.inr 187)), some (.inl p1)]) (S' := [.inl 0, .inl p1]) (fun _ _ => rfl) ?_
  obtain ⟨x2, hx, h⟩ := bnd h
  refine ev_call (e_X12_isIn L0 d (by omega) hx) 3 (pc' := 11) (L' := [some (.inr (.inr 187)), some (.inl p1)]) (S' := []) (fun _ _ => rfl) ?_
  obtain ⟨x3, hx, h⟩ := bnd h
  cases h
  exact ev_brt hx 1 (fun _ _ => rfl)
set_option maxRecDepth 100000 in
set_option maxHeartbeats 4000000 in
theorem e_X12_isArc (L0 d : Nat) (hd : 2 ≤ d) {p1 : Int} {D : DT} {t0 : Int} (h : m_X12_isArc p1 D = some t0) : Ret mtab d 249 [.inr (.inr 187), .inl p1] (SH L0, D) (some (.inl t0), (SH L0, D)) := by
  obtain ⟨d, rfl⟩ : ∃ e, d = e + 1 := ⟨d - 1, by omega⟩
  refine Ret.of (code := k_X12_isArc) (ml := 2) rfl ?_
  show EvF mtab d k_X12_isArc 0 [some (.inr (.inr 187)), some (.inl p1)] [] (SH L0, D) (some (.inl t0), (SH L0, D))
  unfold m_X12_isArc at h
  obtain ⟨x1, hx, h⟩ := bnd h
  refine ev_call (e_X12_arcs L0 d (by omega) hx) 4 (pc' := 6) (L' := [some (.inr (.inr 187)), some (.inl p1)]) (S' := [.inl 0, .inl p1]) (fun _ _ => rfl) ?_
  obtain ⟨x2, hx, h⟩ := bnd h
  refine ev_call (e_X12_isIn L0 d (by omega) hx) 3 (pc' := 11) (L' := [some (.inr (.inr 187)), some (.inl p1)]) (S' := []) (fun _ _ => rfl) ?_
  obtain ⟨x3, hx, h⟩ := bnd h
  cases h
  exact ev_brt hx 1 (fun _ _ => rfl)
set_option maxRecDepth 100000 in
set_option maxHeartbeats 4000000 in
theorem e_X12_asks (L0 d : Nat) (hd : 8 ≤ d) {p1 p2 : Int} {D : DT} {t0 : (Int × DT)} (h : m_X12_asks p1 p2 D = some t0) : Ret mtab d 250 [.inr (.inr 187), .inl p1, .inl p2] (SH L0, D) (some (.inl t0.1), (SH L0, t0.2)) := by
  obtain ⟨d, rfl⟩ : ∃ e, d = e + 1 := ⟨d - 1, by omega⟩
  refine Ret.of (code := k_X12_asks) (ml := 3) rfl ?_
  show EvF mtab d k_X12_asks 0 [some (.inr (.inr 187)), some (.inl p1), some (.inl p2)] [] (SH L0, D) (some (.inl t0.1), (SH L0, t0.2))
  unfold m_X12_asks at h
  obtain ⟨t1, hv, h⟩ := bnd h
  have hJ : EvF mtab d k_X12_asks 23 [some (.inr (.inr 187)), some (.inl p1), some (.inl p2)] [.inl t1, .inr (.inr 187)] (SH L0, dput D 187 3 0) (some (.inl t0.1), (SH L0, t0.2)) := by
    rcases ite_or h with ⟨hc, h⟩ | ⟨hc, h⟩
    · refine ev_ift hc 4 (pc' := 33) (L' := [some (.inr (.inr 187)), some (.inl p1), some (.inl p2)]) (S' := []) (σ' := (SH L0, dput (dput D 187 3 0) 187 2 t1)) (fun _ _ => rfl) ?_
      cases h
      exact ev_ret 2 (fun _ _ => rfl)
    · refine ev_iff hc 4 (pc' := 35) (L' := [some (.inr (.inr 187)), some (.inl p1), some (.inl p2)]) (S' := []) (σ' := (SH L0, dput (dput D 187 3 0) 187 2 t1)) (fun _ _ => rfl) ?_
      obtain ⟨D2, hx, h⟩ := bnd h
      refine ev_call (e_X12_laysAll L0 d (by omega) hx) 2 (pc' := 39) (L' := [some (.inr (.inr 187)), some (.inl p1), some (.inl p2)]) (S' := []) (fun _ _ => rfl) ?_
      cases h
      exact ev_ret 2 (fun _ _ => rfl)
  clear h
  rcases ite_or hv with ⟨hc, hv⟩ | ⟨hc, hv⟩
  · refine ev_ift hc 6 (pc' := 10) (L' := [some (.inr (.inr 187)), some (.inl p1), some (.inl p2)]) (S' := [.inr (.inr 187)]) (σ' := (SH L0, dput D 187 3 0)) (fun _ _ => rfl) ?_
    have he0 := Option.some.inj hv
    subst he0
    exact ev_go 2 (pc' := 23) (L' := [some (.inr (.inr 187)), some (.inl p1), some (.inl p2)]) (S' := [.inl 1, .inr (.inr 187)]) (σ' := (SH L0, dput D 187 3 0)) (fun _ _ => rfl) hJ
  · refine ev_iff hc 6 (pc' := 14) (L' := [some (.inr (.inr 187)), some (.inl p1), some (.inl p2)]) (S' := [.inr (.inr 187)]) (σ' := (SH L0, dput D 187 3 0)) (fun _ _ => rfl) ?_
    rcases ite_or hv with ⟨hc, hv⟩ | ⟨hc, hv⟩
    · refine ev_ift hc 2 (pc' := 18) (L' := [some (.inr (.inr 187)), some (.inl p1), some (.inl p2)]) (S' := [.inr (.inr 187)]) (σ' := (SH L0, dput D 187 3 0)) (fun _ _ => rfl) ?_
      have he0 := Option.some.inj hv
      subst he0
      exact ev_go 2 (pc' := 23) (L' := [some (.inr (.inr 187)), some (.inl p1), some (.inl p2)]) (S' := [.inl 2, .inr (.inr 187)]) (σ' := (SH L0, dput D 187 3 0)) (fun _ _ => rfl) hJ
    · refine ev_iff hc 2 (pc' := 22) (L' := [some (.inr (.inr 187)), some (.inl p1), some (.inl p2)]) (S' := [.inr (.inr 187)]) (σ' := (SH L0, dput D 187 3 0)) (fun _ _ => rfl) ?_
      have he0 := Option.some.inj hv
      subst he0
      exact ev_go 1 (pc' := 23) (L' := [some (.inr (.inr 187)), some (.inl p1), some (.inl p2)]) (S' := [.inl 0, .inr (.inr 187)]) (σ' := (SH L0, dput D 187 3 0)) (fun _ _ => rfl) hJ
set_option maxRecDepth 100000 in
set_option maxHeartbeats 4000000 in
theorem e_X12_broken (L0 d : Nat) (hd : 2 ≤ d) {D : DT} {t0 : Int} (h : m_X12_broken  D = some t0) : Ret mtab d 251 [.inr (.inr 187)] (SH L0, D) (some (.inl t0), (SH L0, D)) := by
  obtain ⟨d, rfl⟩ : ∃ e, d = e + 1 := ⟨d - 1, by omega⟩
  refine Ret.of (code := k_X12_broken) (ml := 3) rfl ?_
  show EvF mtab d k_X12_broken 0 [some (.inr (.inr 187)), none, none] [] (SH L0, D) (some (.inl t0), (SH L0, D))
  unfold m_X12_broken at h
  obtain ⟨r, hr, h⟩ := bnd h
  have hX : (fun (r : Int) => ∀ (o7 : Option (Sum Int Nat)), EvF mtab d k_X12_broken 35 [some (.inr (.inr 187)), some (.inl r), dv o7] [] (SH L0, D) (some (.inl t0), (SH L0, D))) r := by
    obtain ⟨l1_6, hre⟩ : ∃ q, q = r := ⟨r, rfl⟩
    subst hre
    intro o7
    show EvF mtab d k_X12_broken 35 [some (.inr (.inr 187)), some (.inl l1_6), dv o7] [] (SH L0, D) (some (.inl t0), (SH L0, D))
    cases h
    exact ev_ret 2 (fun _ _ => rfl)
  clear h
  refine ev_go 4 (pc' := 4) (L' := [some (.inr (.inr 187)), some (.inl 0), some (.inl 0)]) (S' := []) (σ' := (SH L0, D)) (fun _ _ => rfl) ?_
  refine loop_ind (P := fun s => EvF mtab d k_X12_broken 4 [some (.inr (.inr 187)), some (.inl s.1), some (.inl s.2)] [] (SH L0, D) (some (.inl t0), (SH L0, D))) (X := fun r => ∀ (o7 : Option (Sum Int Nat)), EvF mtab d k_X12_broken 35 [some (.inr (.inr 187)), some (.inl r), dv o7] [] (SH L0, D) (some (.inl t0), (SH L0, D))) hr hX ?_
  clear hr hX
  intro s t hb hK0
  obtain ⟨l1_1, l2_2⟩ := s
  show EvF mtab d k_X12_broken 4 [some (.inr (.inr 187)), some (.inl l1_1), some (.inl l2_2)] [] (SH L0, D) (some (.inl t0), (SH L0, D))
  unfold b_X12_broken_4 at hb
  obtain ⟨x3, hx, hb⟩ := bnd hb
  refine ev_call (e_X12_arcs L0 d (by omega) hx) 3 (pc' := 9) (L' := [some (.inr (.inr 187)), some (.inl l1_1), some (.inl l2_2)]) (S' := [.inl l2_2]) (fun _ _ => rfl) ?_
  rcases ite_or hb with ⟨hc, hb⟩ | ⟨hc, hb⟩
  · refine ev_ift hc 1 (pc' := 12) (L' := [some (.inr (.inr 187)), some (.inl l1_1), some (.inl l2_2)]) (S' := []) (σ' := (SH L0, D)) (fun _ _ => rfl) ?_
    obtain ⟨x4, hx, hb⟩ := bnd hb
    refine ev_bind hx 5 (pc' := 19) (L' := fun x4 => [some (.inr (.inr 187)), some (.inl l1_1), some (.inl l2_2)]) (S' := fun x4 => [.inl x4, .inl l1_1]) (σ' := fun x4 => (SH L0, D)) (fun _ _ => rfl) ?_
    obtain ⟨t5, hv, hb⟩ := bnd hb
    have hJ : EvF mtab d k_X12_broken 27 [some (.inr (.inr 187)), some (.inl l1_1), some (.inl l2_2)] [.inl t5, .inl l1_1] (SH L0, D) (some (.inl t0), (SH L0, D)) := by
      cases hb
      exact ev_go 4 (pc' := 4) (L' := [some (.inr (.inr 187)), some (.inl (w32 (l1_1 + t5))), some (.inl (w32 (l2_2 + 1)))]) (S' := []) (σ' := (SH L0, D)) (fun _ _ => rfl) hK0
    clear hb
    rcases ite_or hv with ⟨hc, hv⟩ | ⟨hc, hv⟩
    · refine ev_ift hc 1 (pc' := 22) (L' := [some (.inr (.inr 187)), some (.inl l1_1), some (.inl l2_2)]) (S' := [.inl l1_1]) (σ' := (SH L0, D)) (fun _ _ => rfl) ?_
      have he0 := Option.some.inj hv
      subst he0
      exact ev_go 2 (pc' := 27) (L' := [some (.inr (.inr 187)), some (.inl l1_1), some (.inl l2_2)]) (S' := [.inl 1, .inl l1_1]) (σ' := (SH L0, D)) (fun _ _ => rfl) hJ
    · refine ev_iff hc 1 (pc' := 26) (L' := [some (.inr (.inr 187)), some (.inl l1_1), some (.inl l2_2)]) (S' := [.inl l1_1]) (σ' := (SH L0, D)) (fun _ _ => rfl) ?_
      have he0 := Option.some.inj hv
      subst he0
      exact ev_go 1 (pc' := 27) (L' := [some (.inr (.inr 187)), some (.inl l1_1), some (.inl l2_2)]) (S' := [.inl 0, .inl l1_1]) (σ' := (SH L0, D)) (fun _ _ => rfl) hJ
  · refine ev_iff hc 1 (pc' := 35) (L' := [some (.inr (.inr 187)), some (.inl l1_1), some (.inl l2_2)]) (S' := []) (σ' := (SH L0, D)) (fun _ _ => rfl) ?_
    cases hb
    exact hK0 (some (.inl l2_2))
set_option maxRecDepth 100000 in
set_option maxHeartbeats 4000000 in
theorem e_X12_mending (L0 d : Nat) (hd : 2 ≤ d) {D : DT} {t0 : Int} (h : m_X12_mending  D = some t0) : Ret mtab d 252 [.inr (.inr 187)] (SH L0, D) (some (.inl t0), (SH L0, D)) := by
  obtain ⟨d, rfl⟩ : ∃ e, d = e + 1 := ⟨d - 1, by omega⟩
  refine Ret.of (code := k_X12_mending) (ml := 3) rfl ?_
  show EvF mtab d k_X12_mending 0 [some (.inr (.inr 187)), none, none] [] (SH L0, D) (some (.inl t0), (SH L0, D))
  unfold m_X12_mending at h
  obtain ⟨r, hr, h⟩ := bnd h
  have hX : (fun (r : Int) => ∀ (o12 : Option (Sum Int Nat)), EvF mtab d k_X12_mending 77 [some (.inr (.inr 187)), some (.inl r), dv o12] [] (SH L0, D) (some (.inl t0), (SH L0, D))) r := by
    obtain ⟨l1_11, hre⟩ : ∃ q, q = r := ⟨r, rfl⟩
    subst hre
    intro o12
    show EvF mtab d k_X12_mending 77 [some (.inr (.inr 187)), some (.inl l1_11), dv o12] [] (SH L0, D) (some (.inl t0), (SH L0, D))
    cases h
    exact ev_ret 2 (fun _ _ => rfl)
  clear h
  refine ev_go 4 (pc' := 4) (L' := [some (.inr (.inr 187)), some (.inl 0), some (.inl 0)]) (S' := []) (σ' := (SH L0, D)) (fun _ _ => rfl) ?_
  refine loop_ind (P := fun s => EvF mtab d k_X12_mending 4 [some (.inr (.inr 187)), some (.inl s.1), some (.inl s.2)] [] (SH L0, D) (some (.inl t0), (SH L0, D))) (X := fun r => ∀ (o12 : Option (Sum Int Nat)), EvF mtab d k_X12_mending 77 [some (.inr (.inr 187)), some (.inl r), dv o12] [] (SH L0, D) (some (.inl t0), (SH L0, D))) hr hX ?_
  clear hr hX
  intro s t hb hK0
  obtain ⟨l1_1, l2_2⟩ := s
  show EvF mtab d k_X12_mending 4 [some (.inr (.inr 187)), some (.inl l1_1), some (.inl l2_2)] [] (SH L0, D) (some (.inl t0), (SH L0, D))
  unfold b_X12_mending_4 at hb
  obtain ⟨x3, hx, hb⟩ := bnd hb
  refine ev_call (e_X12_arcs L0 d (by omega) hx) 3 (pc' := 9) (L' := [some (.inr (.inr 187)), some (.inl l1_1), some (.inl l2_2)]) (S' := [.inl l2_2]) (fun _ _ => rfl) ?_
  rcases ite_or hb with ⟨hc, hb⟩ | ⟨hc, hb⟩
  · refine ev_ift hc 1 (pc' := 12) (L' := [some (.inr (.inr 187)), some (.inl l1_1), some (.inl l2_2)]) (S' := []) (σ' := (SH L0, D)) (fun _ _ => rfl) ?_
    obtain ⟨x4, hx, hb⟩ := bnd hb
    refine ev_bind hx 5 (pc' := 19) (L' := fun x4 => [some (.inr (.inr 187)), some (.inl l1_1), some (.inl l2_2)]) (S' := fun x4 => [.inl x4, .inl l1_1]) (σ' := fun x4 => (SH L0, D)) (fun _ _ => rfl) ?_
    obtain ⟨x5, hx, hb⟩ := bnd hb
    refine ev_bind hx 6 (pc' := 29) (L' := fun x5 => [some (.inr (.inr 187)), some (.inl l1_1), some (.inl l2_2)]) (S' := fun x5 => [.inl x5, .inl x4, .inl l1_1]) (σ' := fun x5 => (SH L0, D)) (fun _ _ => rfl) ?_
    obtain ⟨t10, hv, hb⟩ := bnd hb
    have hJ : EvF mtab d k_X12_mending 69 [some (.inr (.inr 187)), some (.inl l1_1), some (.inl l2_2)] [.inl t10, .inl l1_1] (SH L0, D) (some (.inl t0), (SH L0, D)) := by
      cases hb
      exact ev_go 4 (pc' := 4) (L' := [some (.inr (.inr 187)), some (.inl (w32 (l1_1 + t10))), some (.inl (w32 (l2_2 + 1)))]) (S' := []) (σ' := (SH L0, D)) (fun _ _ => rfl) hK0
    clear hb
    rcases ite_or hv with ⟨hc, hv⟩ | ⟨hc, hv⟩
    · refine ev_ift hc 1 (pc' := 32) (L' := [some (.inr (.inr 187)), some (.inl l1_1), some (.inl l2_2)]) (S' := [.inl l1_1]) (σ' := (SH L0, D)) (fun _ _ => rfl) ?_
      obtain ⟨x6, hx, hv⟩ := bnd hv
      refine ev_bind hx 4 (pc' := 38) (L' := fun x6 => [some (.inr (.inr 187)), some (.inl l1_1), some (.inl l2_2)]) (S' := fun x6 => [.inl x6, .inl l1_1]) (σ' := fun x6 => (SH L0, D)) (fun _ _ => rfl) ?_
      obtain ⟨x7, hx, hv⟩ := bnd hv
      refine ev_bind hx 6 (pc' := 48) (L' := fun x7 => [some (.inr (.inr 187)), some (.inl l1_1), some (.inl l2_2)]) (S' := fun x7 => [.inl x7, .inl x6, .inl l1_1]) (σ' := fun x7 => (SH L0, D)) (fun _ _ => rfl) ?_
      have he0 := Option.some.inj hv
      subst he0
      exact ev_go 2 (pc' := 69) (L' := [some (.inr (.inr 187)), some (.inl l1_1), some (.inl l2_2)]) (S' := [.inl (w32 (x6 - x7)), .inl l1_1]) (σ' := (SH L0, D)) (fun _ _ => rfl) hJ
    · refine ev_iff hc 1 (pc' := 52) (L' := [some (.inr (.inr 187)), some (.inl l1_1), some (.inl l2_2)]) (S' := [.inl l1_1]) (σ' := (SH L0, D)) (fun _ _ => rfl) ?_
      obtain ⟨x8, hx, hv⟩ := bnd hv
      refine ev_bind hx 6 (pc' := 62) (L' := fun x8 => [some (.inr (.inr 187)), some (.inl l1_1), some (.inl l2_2)]) (S' := fun x8 => [.inl x8, .inl l1_1]) (σ' := fun x8 => (SH L0, D)) (fun _ _ => rfl) ?_
      obtain ⟨x9, hx, hv⟩ := bnd hv
      refine ev_bind hx 4 (pc' := 68) (L' := fun x9 => [some (.inr (.inr 187)), some (.inl l1_1), some (.inl l2_2)]) (S' := fun x9 => [.inl x9, .inl x8, .inl l1_1]) (σ' := fun x9 => (SH L0, D)) (fun _ _ => rfl) ?_
      have he0 := Option.some.inj hv
      subst he0
      exact ev_go 1 (pc' := 69) (L' := [some (.inr (.inr 187)), some (.inl l1_1), some (.inl l2_2)]) (S' := [.inl (w32 (x8 - x9)), .inl l1_1]) (σ' := (SH L0, D)) (fun _ _ => rfl) hJ
  · refine ev_iff hc 1 (pc' := 77) (L' := [some (.inr (.inr 187)), some (.inl l1_1), some (.inl l2_2)]) (S' := []) (σ' := (SH L0, D)) (fun _ _ => rfl) ?_
    cases hb
    exact hK0 (some (.inl l2_2))
set_option maxRecDepth 100000 in
set_option maxHeartbeats 4000000 in
theorem e_X12_many (L0 d : Nat) (hd : 9 ≤ d) {p1 : Int} {D : DT} {t0 : (Int × DT)} (h : m_X12_many p1 D = some t0) : Ret mtab d 253 [.inr (.inr 187), .inl p1] (SH L0, D) (some (.inl t0.1), (SH L0, t0.2)) := by
  obtain ⟨d, rfl⟩ : ∃ e, d = e + 1 := ⟨d - 1, by omega⟩
  refine Ret.of (code := k_X12_many) (ml := 2) rfl ?_
  show EvF mtab d k_X12_many 0 [some (.inr (.inr 187)), some (.inl p1)] [] (SH L0, D) (some (.inl t0.1), (SH L0, t0.2))
  unfold m_X12_many at h
  obtain ⟨x1, hx, h⟩ := bnd h
  refine ev_call (e_X12_isIn L0 d (by omega) hx) 5 (pc' := 8) (L' := [some (.inr (.inr 187)), some (.inl p1)]) (S' := [.inr (.inr 187)]) (fun _ _ => rfl) ?_
  obtain ⟨⟨x2, D3⟩, hx, h⟩ := bnd h
  refine ev_call (e_X12_asks L0 d (by omega) hx) 2 (pc' := 12) (L' := [some (.inr (.inr 187)), some (.inl p1)]) (S' := []) (fun _ _ => rfl) ?_
  rcases ite_or h with ⟨hc, h⟩ | ⟨hc, h⟩
  · refine ev_ift hc 1 (pc' := 15) (L' := [some (.inr (.inr 187)), some (.inl p1)]) (S' := []) (σ' := (SH L0, D3)) (fun _ _ => rfl) ?_
    cases h
    exact ev_ret 2 (fun _ _ => rfl)
  · refine ev_iff hc 1 (pc' := 17) (L' := [some (.inr (.inr 187)), some (.inl p1)]) (S' := []) (σ' := (SH L0, D3)) (fun _ _ => rfl) ?_
    rcases ite_or h with ⟨hc0, h⟩ | ⟨hc0, h⟩
    · refine ev_tsw 2 (tgt := 48) (L' := [some (.inr (.inr 187)), some (.inl p1)]) (S' := []) (σ' := (SH L0, D3)) (fun _ _ => rfl) (fun g => by simp [tsw, hc0]) ?_
      obtain ⟨x4, hx, h⟩ := bnd h
      refine ev_call (e_X12_broken L0 d (by omega) hx) 2 (pc' := 52) (L' := [some (.inr (.inr 187)), some (.inl p1)]) (S' := []) (fun _ _ => rfl) ?_
      cases h
      exact ev_ret 1 (fun _ _ => rfl)
    rcases ite_or h with ⟨hc1, h⟩ | ⟨hc1, h⟩
    · refine ev_tsw 2 (tgt := 53) (L' := [some (.inr (.inr 187)), some (.inl p1)]) (S' := []) (σ' := (SH L0, D3)) (fun _ _ => rfl) (fun g => by simp [tsw, hc0, hc1]) ?_
      obtain ⟨x5, hx, h⟩ := bnd h
      refine ev_call (e_X12_mending L0 d (by omega) hx) 2 (pc' := 57) (L' := [some (.inr (.inr 187)), some (.inl p1)]) (S' := []) (fun _ _ => rfl) ?_
      cases h
      exact ev_ret 1 (fun _ _ => rfl)
    rcases ite_or h with ⟨hc2, h⟩ | ⟨hc2, h⟩
    · refine ev_tsw 2 (tgt := 58) (L' := [some (.inr (.inr 187)), some (.inl p1)]) (S' := []) (σ' := (SH L0, D3)) (fun _ _ => rfl) (fun g => by simp [tsw, hc0, hc1, hc2]) ?_
      cases h
      exact ev_ret 3 (fun _ _ => rfl)
    rcases ite_or h with ⟨hc3, h⟩ | ⟨hc3, h⟩
    · refine ev_tsw 2 (tgt := 63) (L' := [some (.inr (.inr 187)), some (.inl p1)]) (S' := []) (σ' := (SH L0, D3)) (fun _ _ => rfl) (fun g => by simp [tsw, hc0, hc1, hc2, hc3]) ?_
      cases h
      exact ev_ret 3 (fun _ _ => rfl)
    refine ev_tsw 2 (tgt := 68) (L' := [some (.inr (.inr 187)), some (.inl p1)]) (S' := []) (σ' := (SH L0, D3)) (fun _ _ => rfl) (fun g => by simp [tsw, hc0, hc1, hc2, hc3]) ?_
    obtain ⟨x6, hx, h⟩ := bnd h
    refine ev_bind hx 4 (pc' := 74) (L' := fun x6 => [some (.inr (.inr 187)), some (.inl p1)]) (S' := fun x6 => [.inl x6]) (σ' := fun x6 => (SH L0, D3)) (fun _ _ => rfl) ?_
    cases h
    exact ev_ret 1 (fun _ _ => rfl)
set_option maxRecDepth 100000 in
set_option maxHeartbeats 4000000 in
theorem e_X12_blocksOf (L0 d : Nat) (hd : 2 ≤ d) {p1 : Int} {D : DT} {t0 : Int} (h : m_X12_blocksOf p1 D = some t0) : Ret mtab d 254 [.inr (.inr 187), .inl p1] (SH L0, D) (some (.inl t0), (SH L0, D)) := by
  obtain ⟨d, rfl⟩ : ∃ e, d = e + 1 := ⟨d - 1, by omega⟩
  refine Ret.of (code := k_X12_blocksOf) (ml := 4) rfl ?_
  show EvF mtab d k_X12_blocksOf 0 [some (.inr (.inr 187)), some (.inl p1), none, none] [] (SH L0, D) (some (.inl t0), (SH L0, D))
  unfold m_X12_blocksOf at h
  obtain ⟨r, hr, h⟩ := bnd h
  have hX : (fun (r : Int) => ∀ (o7 : Option (Sum Int Nat)), EvF mtab d k_X12_blocksOf 35 [some (.inr (.inr 187)), some (.inl p1), some (.inl r), dv o7] [] (SH L0, D) (some (.inl t0), (SH L0, D))) r := by
    obtain ⟨l2_6, hre⟩ : ∃ q, q = r := ⟨r, rfl⟩
    subst hre
    intro o7
    show EvF mtab d k_X12_blocksOf 35 [some (.inr (.inr 187)), some (.inl p1), some (.inl l2_6), dv o7] [] (SH L0, D) (some (.inl t0), (SH L0, D))
    cases h
    exact ev_ret 2 (fun _ _ => rfl)
  clear h
  refine ev_go 4 (pc' := 4) (L' := [some (.inr (.inr 187)), some (.inl p1), some (.inl 0), some (.inl 0)]) (S' := []) (σ' := (SH L0, D)) (fun _ _ => rfl) ?_
  refine loop_ind (P := fun s => EvF mtab d k_X12_blocksOf 4 [some (.inr (.inr 187)), some (.inl p1), some (.inl s.1), some (.inl s.2)] [] (SH L0, D) (some (.inl t0), (SH L0, D))) (X := fun r => ∀ (o7 : Option (Sum Int Nat)), EvF mtab d k_X12_blocksOf 35 [some (.inr (.inr 187)), some (.inl p1), some (.inl r), dv o7] [] (SH L0, D) (some (.inl t0), (SH L0, D))) hr hX ?_
  clear hr hX
  intro s t hb hK0
  obtain ⟨l2_1, l3_2⟩ := s
  show EvF mtab d k_X12_blocksOf 4 [some (.inr (.inr 187)), some (.inl p1), some (.inl l2_1), some (.inl l3_2)] [] (SH L0, D) (some (.inl t0), (SH L0, D))
  unfold b_X12_blocksOf_4 at hb
  obtain ⟨x3, hx, hb⟩ := bnd hb
  refine ev_call (e_X12_blocks L0 d (by omega) hx) 3 (pc' := 9) (L' := [some (.inr (.inr 187)), some (.inl p1), some (.inl l2_1), some (.inl l3_2)]) (S' := [.inl l3_2]) (fun _ _ => rfl) ?_
  rcases ite_or hb with ⟨hc, hb⟩ | ⟨hc, hb⟩
  · refine ev_ift hc 1 (pc' := 12) (L' := [some (.inr (.inr 187)), some (.inl p1), some (.inl l2_1), some (.inl l3_2)]) (S' := []) (σ' := (SH L0, D)) (fun _ _ => rfl) ?_
    obtain ⟨x4, hx, hb⟩ := bnd hb
    refine ev_call (e_X12_funOf L0 d (by omega) hx) 4 (pc' := 18) (L' := [some (.inr (.inr 187)), some (.inl p1), some (.inl l2_1), some (.inl l3_2)]) (S' := [.inl l2_1]) (fun _ _ => rfl) ?_
    obtain ⟨t5, hv, hb⟩ := bnd hb
    have hJ : EvF mtab d k_X12_blocksOf 27 [some (.inr (.inr 187)), some (.inl p1), some (.inl l2_1), some (.inl l3_2)] [.inl t5, .inl l2_1] (SH L0, D) (some (.inl t0), (SH L0, D)) := by
      cases hb
      exact ev_go 4 (pc' := 4) (L' := [some (.inr (.inr 187)), some (.inl p1), some (.inl (w32 (l2_1 + t5))), some (.inl (w32 (l3_2 + 1)))]) (S' := []) (σ' := (SH L0, D)) (fun _ _ => rfl) hK0
    clear hb
    rcases ite_or hv with ⟨hc, hv⟩ | ⟨hc, hv⟩
    · refine ev_ift hc 2 (pc' := 22) (L' := [some (.inr (.inr 187)), some (.inl p1), some (.inl l2_1), some (.inl l3_2)]) (S' := [.inl l2_1]) (σ' := (SH L0, D)) (fun _ _ => rfl) ?_
      have he0 := Option.some.inj hv
      subst he0
      exact ev_go 2 (pc' := 27) (L' := [some (.inr (.inr 187)), some (.inl p1), some (.inl l2_1), some (.inl l3_2)]) (S' := [.inl 1, .inl l2_1]) (σ' := (SH L0, D)) (fun _ _ => rfl) hJ
    · refine ev_iff hc 2 (pc' := 26) (L' := [some (.inr (.inr 187)), some (.inl p1), some (.inl l2_1), some (.inl l3_2)]) (S' := [.inl l2_1]) (σ' := (SH L0, D)) (fun _ _ => rfl) ?_
      have he0 := Option.some.inj hv
      subst he0
      exact ev_go 1 (pc' := 27) (L' := [some (.inr (.inr 187)), some (.inl p1), some (.inl l2_1), some (.inl l3_2)]) (S' := [.inl 0, .inl l2_1]) (σ' := (SH L0, D)) (fun _ _ => rfl) hJ
  · refine ev_iff hc 1 (pc' := 35) (L' := [some (.inr (.inr 187)), some (.inl p1), some (.inl l2_1), some (.inl l3_2)]) (S' := []) (σ' := (SH L0, D)) (fun _ _ => rfl) ?_
    cases hb
    exact hK0 (some (.inl l3_2))
set_option maxRecDepth 100000 in
set_option maxHeartbeats 4000000 in
theorem e_X12_rowAt (L0 d : Nat) (hd : 1 ≤ d) {p1 : Int} {D : DT} {t0 : Int} (h : m_X12_rowAt p1 D = some t0) : Ret mtab d 255 [.inr (.inr 187), .inl p1] (SH L0, D) (some (.inl t0), (SH L0, D)) := by
  obtain ⟨d, rfl⟩ : ∃ e, d = e + 1 := ⟨d - 1, by omega⟩
  refine Ret.of (code := k_X12_rowAt) (ml := 3) rfl ?_
  show EvF mtab d k_X12_rowAt 0 [some (.inr (.inr 187)), some (.inl p1), none] [] (SH L0, D) (some (.inl t0), (SH L0, D))
  unfold m_X12_rowAt at h
  obtain ⟨r, hr, h⟩ := bnd h
  have hX : (fun (r : Int) => EvF mtab d k_X12_rowAt 18 [some (.inr (.inr 187)), some (.inl p1), some (.inl r)] [] (SH L0, D) (some (.inl t0), (SH L0, D))) r := by
    obtain ⟨l2_3, hre⟩ : ∃ q, q = r := ⟨r, rfl⟩
    subst hre
    show EvF mtab d k_X12_rowAt 18 [some (.inr (.inr 187)), some (.inl p1), some (.inl l2_3)] [] (SH L0, D) (some (.inl t0), (SH L0, D))
    cases h
    exact ev_ret 2 (fun _ _ => rfl)
  clear h
  refine ev_go 2 (pc' := 2) (L' := [some (.inr (.inr 187)), some (.inl p1), some (.inl 0)]) (S' := []) (σ' := (SH L0, D)) (fun _ _ => rfl) ?_
  refine loop_ind (P := fun s => EvF mtab d k_X12_rowAt 2 [some (.inr (.inr 187)), some (.inl p1), some (.inl s)] [] (SH L0, D) (some (.inl t0), (SH L0, D))) (X := fun r => EvF mtab d k_X12_rowAt 18 [some (.inr (.inr 187)), some (.inl p1), some (.inl r)] [] (SH L0, D) (some (.inl t0), (SH L0, D))) hr hX ?_
  clear hr hX
  intro s t hb hK0
  obtain ⟨l2_1, hre⟩ : ∃ q, q = s := ⟨s, rfl⟩
  subst hre
  show EvF mtab d k_X12_rowAt 2 [some (.inr (.inr 187)), some (.inl p1), some (.inl l2_1)] [] (SH L0, D) (some (.inl t0), (SH L0, D))
  unfold b_X12_rowAt_2 at hb
  obtain ⟨x2, hx, hb⟩ := bnd hb
  refine ev_bind hx 4 (pc' := 8) (L' := fun x2 => [some (.inr (.inr 187)), some (.inl p1), some (.inl l2_1)]) (S' := fun x2 => [.inl x2]) (σ' := fun x2 => (SH L0, D)) (fun _ _ => rfl) ?_
  rcases ite_or hb with ⟨hc, hb⟩ | ⟨hc, hb⟩
  · refine ev_ift hc 2 (pc' := 18) (L' := [some (.inr (.inr 187)), some (.inl p1), some (.inl l2_1)]) (S' := []) (σ' := (SH L0, D)) (fun _ _ => rfl) ?_
    cases hb
    exact hK0
  · refine ev_iff hc 2 (pc' := 12) (L' := [some (.inr (.inr 187)), some (.inl p1), some (.inl l2_1)]) (S' := []) (σ' := (SH L0, D)) (fun _ _ => rfl) ?_
    cases hb
    exact ev_go 2 (pc' := 2) (L' := [some (.inr (.inr 187)), some (.inl p1), some (.inl (w32 (l2_1 + 1)))]) (S' := []) (σ' := (SH L0, D)) (fun _ _ => rfl) hK0
set_option maxRecDepth 100000 in
set_option maxHeartbeats 4000000 in
theorem e_X12_function (L0 d : Nat) (hd : 9 ≤ d) {p1 p2 : Int} {D : DT} {t0 : (Int × DT)} (h : m_X12_function p1 p2 D = some t0) : Ret mtab d 256 [.inr (.inr 187), .inl p1, .inl p2] (SH L0, D) (some (.inl t0.1), (SH L0, t0.2)) := by
  obtain ⟨d, rfl⟩ : ∃ e, d = e + 1 := ⟨d - 1, by omega⟩
  refine Ret.of (code := k_X12_function) (ml := 3) rfl ?_
  show EvF mtab d k_X12_function 0 [some (.inr (.inr 187)), some (.inl p1), some (.inl p2)] [] (SH L0, D) (some (.inl t0.1), (SH L0, t0.2))
  unfold m_X12_function at h
  obtain ⟨x1, hx, h⟩ := bnd h
  refine ev_call (e_X12_isIn L0 d (by omega) hx) 5 (pc' := 8) (L' := [some (.inr (.inr 187)), some (.inl p1), some (.inl p2)]) (S' := [.inr (.inr 187)]) (fun _ _ => rfl) ?_
  obtain ⟨x2, hx, h⟩ := bnd h
  refine ev_call (e_X12_isFun L0 d (by omega) hx) 3 (pc' := 13) (L' := [some (.inr (.inr 187)), some (.inl p1), some (.inl p2)]) (S' := [.inl x1, .inr (.inr 187)]) (fun _ _ => rfl) ?_
  obtain ⟨⟨x3, D4⟩, hx, h⟩ := bnd h
  refine ev_call (e_X12_asks L0 d (by omega) hx) 1 (pc' := 16) (L' := [some (.inr (.inr 187)), some (.inl p1), some (.inl p2)]) (S' := []) (fun _ _ => rfl) ?_
  rcases ite_or h with ⟨hc, h⟩ | ⟨hc, h⟩
  · refine ev_ift hc 1 (pc' := 19) (L' := [some (.inr (.inr 187)), some (.inl p1), some (.inl p2)]) (S' := []) (σ' := (SH L0, D4)) (fun _ _ => rfl) ?_
    cases h
    exact ev_ret 2 (fun _ _ => rfl)
  · refine ev_iff hc 1 (pc' := 21) (L' := [some (.inr (.inr 187)), some (.inl p1), some (.inl p2)]) (S' := []) (σ' := (SH L0, D4)) (fun _ _ => rfl) ?_
    rcases ite_or h with ⟨hc0, h⟩ | ⟨hc0, h⟩
    · refine ev_tsw 2 (tgt := 64) (L' := [some (.inr (.inr 187)), some (.inl p1), some (.inl p2)]) (S' := []) (σ' := (SH L0, D4)) (fun _ _ => rfl) (fun g => by simp [tsw, hc0]) ?_
      obtain ⟨x5, hx, h⟩ := bnd h
      refine ev_call (e_X12_blocksOf L0 d (by omega) hx) 3 (pc' := 69) (L' := [some (.inr (.inr 187)), some (.inl p1), some (.inl p2)]) (S' := []) (fun _ _ => rfl) ?_
      cases h
      exact ev_ret 1 (fun _ _ => rfl)
    rcases ite_or h with ⟨hc1, h⟩ | ⟨hc1, h⟩
    · refine ev_tsw 2 (tgt := 70) (L' := [some (.inr (.inr 187)), some (.inl p1), some (.inl p2)]) (S' := []) (σ' := (SH L0, D4)) (fun _ _ => rfl) (fun g => by simp [tsw, hc0, hc1]) ?_
      obtain ⟨x6, hx, h⟩ := bnd h
      refine ev_call (e_X12_entryOf L0 d (by omega) hx) 3 (pc' := 75) (L' := [some (.inr (.inr 187)), some (.inl p1), some (.inl p2)]) (S' := []) (fun _ _ => rfl) ?_
      cases h
      exact ev_ret 1 (fun _ _ => rfl)
    rcases ite_or h with ⟨hc2, h⟩ | ⟨hc2, h⟩
    · refine ev_tsw 2 (tgt := 76) (L' := [some (.inr (.inr 187)), some (.inl p1), some (.inl p2)]) (S' := []) (σ' := (SH L0, D4)) (fun _ _ => rfl) (fun g => by simp [tsw, hc0, hc1, hc2]) ?_
      obtain ⟨x7, hx, h⟩ := bnd h
      refine ev_call (e_X12_sizesOf L0 d (by omega) hx) 3 (pc' := 81) (L' := [some (.inr (.inr 187)), some (.inl p1), some (.inl p2)]) (S' := []) (fun _ _ => rfl) ?_
      cases h
      exact ev_ret 1 (fun _ _ => rfl)
    rcases ite_or h with ⟨hc3, h⟩ | ⟨hc3, h⟩
    · refine ev_tsw 2 (tgt := 82) (L' := [some (.inr (.inr 187)), some (.inl p1), some (.inl p2)]) (S' := []) (σ' := (SH L0, D4)) (fun _ _ => rfl) (fun g => by simp [tsw, hc0, hc1, hc2, hc3]) ?_
      obtain ⟨x8, hx, h⟩ := bnd h
      refine ev_call (e_X12_entryHeat L0 d (by omega) hx) 3 (pc' := 87) (L' := [some (.inr (.inr 187)), some (.inl p1), some (.inl p2)]) (S' := []) (fun _ _ => rfl) ?_
      cases h
      exact ev_ret 1 (fun _ _ => rfl)
    rcases ite_or h with ⟨hc4, h⟩ | ⟨hc4, h⟩
    · refine ev_tsw 2 (tgt := 88) (L' := [some (.inr (.inr 187)), some (.inl p1), some (.inl p2)]) (S' := []) (σ' := (SH L0, D4)) (fun _ _ => rfl) (fun g => by simp [tsw, hc0, hc1, hc2, hc3, hc4]) ?_
      obtain ⟨x9, hx, h⟩ := bnd h
      refine ev_bind hx 4 (pc' := 94) (L' := fun x9 => [some (.inr (.inr 187)), some (.inl p1), some (.inl p2)]) (S' := fun x9 => [.inl x9]) (σ' := fun x9 => (SH L0, D4)) (fun _ _ => rfl) ?_
      cases h
      exact ev_ret 1 (fun _ _ => rfl)
    rcases ite_or h with ⟨hc5, h⟩ | ⟨hc5, h⟩
    · refine ev_tsw 2 (tgt := 95) (L' := [some (.inr (.inr 187)), some (.inl p1), some (.inl p2)]) (S' := []) (σ' := (SH L0, D4)) (fun _ _ => rfl) (fun g => by simp [tsw, hc0, hc1, hc2, hc3, hc4, hc5]) ?_
      obtain ⟨x10, hx, h⟩ := bnd h
      refine ev_call (e_X12_rowAt L0 d (by omega) hx) 3 (pc' := 100) (L' := [some (.inr (.inr 187)), some (.inl p1), some (.inl p2)]) (S' := []) (fun _ _ => rfl) ?_
      cases h
      exact ev_ret 1 (fun _ _ => rfl)
    rcases ite_or h with ⟨hc6, h⟩ | ⟨hc6, h⟩
    · refine ev_tsw 2 (tgt := 101) (L' := [some (.inr (.inr 187)), some (.inl p1), some (.inl p2)]) (S' := []) (σ' := (SH L0, D4)) (fun _ _ => rfl) (fun g => by simp [tsw, hc0, hc1, hc2, hc3, hc4, hc5, hc6]) ?_
      obtain ⟨x11, hx, h⟩ := bnd h
      refine ev_bind hx 4 (pc' := 107) (L' := fun x11 => [some (.inr (.inr 187)), some (.inl p1), some (.inl p2)]) (S' := fun x11 => [.inl x11]) (σ' := fun x11 => (SH L0, D4)) (fun _ _ => rfl) ?_
      cases h
      exact ev_ret 1 (fun _ _ => rfl)
    refine ev_tsw 2 (tgt := 108) (L' := [some (.inr (.inr 187)), some (.inl p1), some (.inl p2)]) (S' := []) (σ' := (SH L0, D4)) (fun _ _ => rfl) (fun g => by simp [tsw, hc0, hc1, hc2, hc3, hc4, hc5, hc6]) ?_
    obtain ⟨x12, hx, h⟩ := bnd h
    refine ev_call (e_X12_traceAt L0 d (by omega) hx) 3 (pc' := 113) (L' := [some (.inr (.inr 187)), some (.inl p1), some (.inl p2)]) (S' := []) (fun _ _ => rfl) ?_
    cases h
    exact ev_ret 1 (fun _ _ => rfl)
set_option maxRecDepth 100000 in
set_option maxHeartbeats 4000000 in
theorem e_X12_block (L0 d : Nat) (hd : 9 ≤ d) {p1 p2 : Int} {D : DT} {t0 : (Int × DT)} (h : m_X12_block p1 p2 D = some t0) : Ret mtab d 257 [.inr (.inr 187), .inl p1, .inl p2] (SH L0, D) (some (.inl t0.1), (SH L0, t0.2)) := by
  obtain ⟨d, rfl⟩ : ∃ e, d = e + 1 := ⟨d - 1, by omega⟩
  refine Ret.of (code := k_X12_block) (ml := 3) rfl ?_
  show EvF mtab d k_X12_block 0 [some (.inr (.inr 187)), some (.inl p1), some (.inl p2)] [] (SH L0, D) (some (.inl t0.1), (SH L0, t0.2))
  unfold m_X12_block at h
  obtain ⟨x1, hx, h⟩ := bnd h
  refine ev_call (e_X12_isIn L0 d (by omega) hx) 5 (pc' := 8) (L' := [some (.inr (.inr 187)), some (.inl p1), some (.inl p2)]) (S' := [.inr (.inr 187)]) (fun _ _ => rfl) ?_
  obtain ⟨x2, hx, h⟩ := bnd h
  refine ev_call (e_X12_isBlock L0 d (by omega) hx) 3 (pc' := 13) (L' := [some (.inr (.inr 187)), some (.inl p1), some (.inl p2)]) (S' := [.inl x1, .inr (.inr 187)]) (fun _ _ => rfl) ?_
  obtain ⟨⟨x3, D4⟩, hx, h⟩ := bnd h
  refine ev_call (e_X12_asks L0 d (by omega) hx) 1 (pc' := 16) (L' := [some (.inr (.inr 187)), some (.inl p1), some (.inl p2)]) (S' := []) (fun _ _ => rfl) ?_
  rcases ite_or h with ⟨hc, h⟩ | ⟨hc, h⟩
  · refine ev_ift hc 1 (pc' := 19) (L' := [some (.inr (.inr 187)), some (.inl p1), some (.inl p2)]) (S' := []) (σ' := (SH L0, D4)) (fun _ _ => rfl) ?_
    cases h
    exact ev_ret 2 (fun _ _ => rfl)
  · refine ev_iff hc 1 (pc' := 21) (L' := [some (.inr (.inr 187)), some (.inl p1), some (.inl p2)]) (S' := []) (σ' := (SH L0, D4)) (fun _ _ => rfl) ?_
    rcases ite_or h with ⟨hc0, h⟩ | ⟨hc0, h⟩
    · refine ev_tsw 2 (tgt := 68) (L' := [some (.inr (.inr 187)), some (.inl p1), some (.inl p2)]) (S' := []) (σ' := (SH L0, D4)) (fun _ _ => rfl) (fun g => by simp [tsw, hc0]) ?_
      obtain ⟨x5, hx, h⟩ := bnd h
      refine ev_call (e_X12_funOf L0 d (by omega) hx) 3 (pc' := 73) (L' := [some (.inr (.inr 187)), some (.inl p1), some (.inl p2)]) (S' := []) (fun _ _ => rfl) ?_
      cases h
      exact ev_ret 1 (fun _ _ => rfl)
    rcases ite_or h with ⟨hc1, h⟩ | ⟨hc1, h⟩
    · refine ev_tsw 2 (tgt := 74) (L' := [some (.inr (.inr 187)), some (.inl p1), some (.inl p2)]) (S' := []) (σ' := (SH L0, D4)) (fun _ _ => rfl) (fun g => by simp [tsw, hc0, hc1]) ?_
      obtain ⟨x6, hx, h⟩ := bnd h
      refine ev_bind hx 6 (pc' := 83) (L' := fun x6 => [some (.inr (.inr 187)), some (.inl p1), some (.inl p2)]) (S' := fun x6 => [.inl x6]) (σ' := fun x6 => (SH L0, D4)) (fun _ _ => rfl) ?_
      cases h
      exact ev_ret 1 (fun _ _ => rfl)
    rcases ite_or h with ⟨hc2, h⟩ | ⟨hc2, h⟩
    · refine ev_tsw 2 (tgt := 84) (L' := [some (.inr (.inr 187)), some (.inl p1), some (.inl p2)]) (S' := []) (σ' := (SH L0, D4)) (fun _ _ => rfl) (fun g => by simp [tsw, hc0, hc1, hc2]) ?_
      obtain ⟨x7, hx, h⟩ := bnd h
      refine ev_call (e_X12_endOf L0 d (by omega) hx) 3 (pc' := 89) (L' := [some (.inr (.inr 187)), some (.inl p1), some (.inl p2)]) (S' := []) (fun _ _ => rfl) ?_
      cases h
      exact ev_ret 1 (fun _ _ => rfl)
    rcases ite_or h with ⟨hc3, h⟩ | ⟨hc3, h⟩
    · refine ev_tsw 2 (tgt := 90) (L' := [some (.inr (.inr 187)), some (.inl p1), some (.inl p2)]) (S' := []) (σ' := (SH L0, D4)) (fun _ _ => rfl) (fun g => by simp [tsw, hc0, hc1, hc2, hc3]) ?_
      obtain ⟨x8, hx, h⟩ := bnd h
      refine ev_call (e_X12_firstArc L0 d (by omega) hx) 3 (pc' := 95) (L' := [some (.inr (.inr 187)), some (.inl p1), some (.inl p2)]) (S' := []) (fun _ _ => rfl) ?_
      cases h
      exact ev_ret 1 (fun _ _ => rfl)
    rcases ite_or h with ⟨hc4, h⟩ | ⟨hc4, h⟩
    · refine ev_tsw 2 (tgt := 96) (L' := [some (.inr (.inr 187)), some (.inl p1), some (.inl p2)]) (S' := []) (σ' := (SH L0, D4)) (fun _ _ => rfl) (fun g => by simp [tsw, hc0, hc1, hc2, hc3, hc4]) ?_
      obtain ⟨x9, hx, h⟩ := bnd h
      refine ev_bind hx 4 (pc' := 102) (L' := fun x9 => [some (.inr (.inr 187)), some (.inl p1), some (.inl p2)]) (S' := fun x9 => [.inl x9]) (σ' := fun x9 => (SH L0, D4)) (fun _ _ => rfl) ?_
      cases h
      exact ev_ret 1 (fun _ _ => rfl)
    rcases ite_or h with ⟨hc5, h⟩ | ⟨hc5, h⟩
    · refine ev_tsw 2 (tgt := 103) (L' := [some (.inr (.inr 187)), some (.inl p1), some (.inl p2)]) (S' := []) (σ' := (SH L0, D4)) (fun _ _ => rfl) (fun g => by simp [tsw, hc0, hc1, hc2, hc3, hc4, hc5]) ?_
      obtain ⟨x10, hx, h⟩ := bnd h
      refine ev_bind hx 4 (pc' := 109) (L' := fun x10 => [some (.inr (.inr 187)), some (.inl p1), some (.inl p2)]) (S' := fun x10 => [.inl x10]) (σ' := fun x10 => (SH L0, D4)) (fun _ _ => rfl) ?_
      cases h
      exact ev_ret 1 (fun _ _ => rfl)
    rcases ite_or h with ⟨hc6, h⟩ | ⟨hc6, h⟩
    · refine ev_tsw 2 (tgt := 110) (L' := [some (.inr (.inr 187)), some (.inl p1), some (.inl p2)]) (S' := []) (σ' := (SH L0, D4)) (fun _ _ => rfl) (fun g => by simp [tsw, hc0, hc1, hc2, hc3, hc4, hc5, hc6]) ?_
      obtain ⟨x11, hx, h⟩ := bnd h
      refine ev_bind hx 4 (pc' := 116) (L' := fun x11 => [some (.inr (.inr 187)), some (.inl p1), some (.inl p2)]) (S' := fun x11 => [.inl x11]) (σ' := fun x11 => (SH L0, D4)) (fun _ _ => rfl) ?_
      rcases ite_or h with ⟨hc, h⟩ | ⟨hc, h⟩
      · refine ev_ift hc 1 (pc' := 123) (L' := [some (.inr (.inr 187)), some (.inl p1), some (.inl p2)]) (S' := []) (σ' := (SH L0, D4)) (fun _ _ => rfl) ?_
        cases h
        exact ev_ret 2 (fun _ _ => rfl)
      · refine ev_iff hc 1 (pc' := 119) (L' := [some (.inr (.inr 187)), some (.inl p1), some (.inl p2)]) (S' := []) (σ' := (SH L0, D4)) (fun _ _ => rfl) ?_
        cases h
        exact ev_ret 3 (fun _ _ => rfl)
    rcases ite_or h with ⟨hc7, h⟩ | ⟨hc7, h⟩
    · refine ev_tsw 2 (tgt := 125) (L' := [some (.inr (.inr 187)), some (.inl p1), some (.inl p2)]) (S' := []) (σ' := (SH L0, D4)) (fun _ _ => rfl) (fun g => by simp [tsw, hc0, hc1, hc2, hc3, hc4, hc5, hc6, hc7]) ?_
      obtain ⟨x12, hx, h⟩ := bnd h
      refine ev_bind hx 6 (pc' := 135) (L' := fun x12 => [some (.inr (.inr 187)), some (.inl p1), some (.inl p2)]) (S' := fun x12 => [.inl x12]) (σ' := fun x12 => (SH L0, D4)) (fun _ _ => rfl) ?_
      cases h
      exact ev_ret 1 (fun _ _ => rfl)
    refine ev_tsw 2 (tgt := 136) (L' := [some (.inr (.inr 187)), some (.inl p1), some (.inl p2)]) (S' := []) (σ' := (SH L0, D4)) (fun _ _ => rfl) (fun g => by simp [tsw, hc0, hc1, hc2, hc3, hc4, hc5, hc6, hc7]) ?_
    obtain ⟨x13, hx, h⟩ := bnd h
    refine ev_bind hx 9 (pc' := 150) (L' := fun x13 => [some (.inr (.inr 187)), some (.inl p1), some (.inl p2)]) (S' := fun x13 => [.inl x13, .inl (w32 (p2 - 8))]) (σ' := fun x13 => (SH L0, D4)) (fun _ _ => rfl) ?_
    rcases ite_or h with ⟨hc, h⟩ | ⟨hc, h⟩
    · refine ev_ift hc 1 (pc' := 153) (L' := [some (.inr (.inr 187)), some (.inl p1), some (.inl p2)]) (S' := []) (σ' := (SH L0, D4)) (fun _ _ => rfl) ?_
      obtain ⟨x14, hx, h⟩ := bnd h
      refine ev_bind hx 12 (pc' := 169) (L' := fun x14 => [some (.inr (.inr 187)), some (.inl p1), some (.inl p2)]) (S' := fun x14 => [.inl x14]) (σ' := fun x14 => (SH L0, D4)) (fun _ _ => rfl) ?_
      cases h
      exact ev_ret 2 (fun _ _ => rfl)
    · refine ev_iff hc 1 (pc' := 172) (L' := [some (.inr (.inr 187)), some (.inl p1), some (.inl p2)]) (S' := []) (σ' := (SH L0, D4)) (fun _ _ => rfl) ?_
      cases h
      exact ev_ret 2 (fun _ _ => rfl)
set_option maxRecDepth 100000 in
set_option maxHeartbeats 4000000 in
theorem e_X12_arc (L0 d : Nat) (hd : 9 ≤ d) {p1 p2 : Int} {D : DT} {t0 : (Int × DT)} (h : m_X12_arc p1 p2 D = some t0) : Ret mtab d 258 [.inr (.inr 187), .inl p1, .inl p2] (SH L0, D) (some (.inl t0.1), (SH L0, t0.2)) := by
  obtain ⟨d, rfl⟩ : ∃ e, d = e + 1 := ⟨d - 1, by omega⟩
  refine Ret.of (code := k_X12_arc) (ml := 3) rfl ?_
  show EvF mtab d k_X12_arc 0 [some (.inr (.inr 187)), some (.inl p1), some (.inl p2)] [] (SH L0, D) (some (.inl t0.1), (SH L0, t0.2))
  unfold m_X12_arc at h
  obtain ⟨x1, hx, h⟩ := bnd h
  refine ev_call (e_X12_isIn L0 d (by omega) hx) 5 (pc' := 7) (L' := [some (.inr (.inr 187)), some (.inl p1), some (.inl p2)]) (S' := [.inr (.inr 187)]) (fun _ _ => rfl) ?_
  obtain ⟨x2, hx, h⟩ := bnd h
  refine ev_call (e_X12_isArc L0 d (by omega) hx) 3 (pc' := 12) (L' := [some (.inr (.inr 187)), some (.inl p1), some (.inl p2)]) (S' := [.inl x1, .inr (.inr 187)]) (fun _ _ => rfl) ?_
  obtain ⟨⟨x3, D4⟩, hx, h⟩ := bnd h
  refine ev_call (e_X12_asks L0 d (by omega) hx) 1 (pc' := 15) (L' := [some (.inr (.inr 187)), some (.inl p1), some (.inl p2)]) (S' := []) (fun _ _ => rfl) ?_
  rcases ite_or h with ⟨hc, h⟩ | ⟨hc, h⟩
  · refine ev_ift hc 1 (pc' := 18) (L' := [some (.inr (.inr 187)), some (.inl p1), some (.inl p2)]) (S' := []) (σ' := (SH L0, D4)) (fun _ _ => rfl) ?_
    cases h
    exact ev_ret 2 (fun _ _ => rfl)
  · refine ev_iff hc 1 (pc' := 20) (L' := [some (.inr (.inr 187)), some (.inl p1), some (.inl p2)]) (S' := []) (σ' := (SH L0, D4)) (fun _ _ => rfl) ?_
    rcases ite_or h with ⟨hc, h⟩ | ⟨hc, h⟩
    · refine ev_ift hc 2 (pc' := 24) (L' := [some (.inr (.inr 187)), some (.inl p1), some (.inl p2)]) (S' := []) (σ' := (SH L0, D4)) (fun _ _ => rfl) ?_
      obtain ⟨x5, hx, h⟩ := bnd h
      refine ev_bind hx 6 (pc' := 34) (L' := fun x5 => [some (.inr (.inr 187)), some (.inl p1), some (.inl p2)]) (S' := fun x5 => [.inl x5]) (σ' := fun x5 => (SH L0, D4)) (fun _ _ => rfl) ?_
      cases h
      exact ev_ret 2 (fun _ _ => rfl)
    · refine ev_iff hc 2 (pc' := 37) (L' := [some (.inr (.inr 187)), some (.inl p1), some (.inl p2)]) (S' := []) (σ' := (SH L0, D4)) (fun _ _ => rfl) ?_
      rcases ite_or h with ⟨hc, h⟩ | ⟨hc, h⟩
      · refine ev_ift hc 3 (pc' := 42) (L' := [some (.inr (.inr 187)), some (.inl p1), some (.inl p2)]) (S' := []) (σ' := (SH L0, D4)) (fun _ _ => rfl) ?_
        obtain ⟨x6, hx, h⟩ := bnd h
        refine ev_bind hx 6 (pc' := 52) (L' := fun x6 => [some (.inr (.inr 187)), some (.inl p1), some (.inl p2)]) (S' := fun x6 => [.inl x6]) (σ' := fun x6 => (SH L0, D4)) (fun _ _ => rfl) ?_
        cases h
        exact ev_ret 2 (fun _ _ => rfl)
      · refine ev_iff hc 3 (pc' := 55) (L' := [some (.inr (.inr 187)), some (.inl p1), some (.inl p2)]) (S' := []) (σ' := (SH L0, D4)) (fun _ _ => rfl) ?_
        rcases ite_or h with ⟨hc, h⟩ | ⟨hc, h⟩
        · refine ev_ift hc 3 (pc' := 60) (L' := [some (.inr (.inr 187)), some (.inl p1), some (.inl p2)]) (S' := []) (σ' := (SH L0, D4)) (fun _ _ => rfl) ?_
          obtain ⟨x7, hx, h⟩ := bnd h
          refine ev_bind hx 6 (pc' := 70) (L' := fun x7 => [some (.inr (.inr 187)), some (.inl p1), some (.inl p2)]) (S' := fun x7 => [.inl x7]) (σ' := fun x7 => (SH L0, D4)) (fun _ _ => rfl) ?_
          cases h
          exact ev_ret 2 (fun _ _ => rfl)
        · refine ev_iff hc 3 (pc' := 73) (L' := [some (.inr (.inr 187)), some (.inl p1), some (.inl p2)]) (S' := []) (σ' := (SH L0, D4)) (fun _ _ => rfl) ?_
          rcases ite_or h with ⟨hc, h⟩ | ⟨hc, h⟩
          · refine ev_ift hc 3 (pc' := 78) (L' := [some (.inr (.inr 187)), some (.inl p1), some (.inl p2)]) (S' := []) (σ' := (SH L0, D4)) (fun _ _ => rfl) ?_
            obtain ⟨x8, hx, h⟩ := bnd h
            refine ev_bind hx 4 (pc' := 84) (L' := fun x8 => [some (.inr (.inr 187)), some (.inl p1), some (.inl p2)]) (S' := fun x8 => [.inl x8]) (σ' := fun x8 => (SH L0, D4)) (fun _ _ => rfl) ?_
            cases h
            exact ev_ret 2 (fun _ _ => rfl)
          · refine ev_iff hc 3 (pc' := 87) (L' := [some (.inr (.inr 187)), some (.inl p1), some (.inl p2)]) (S' := []) (σ' := (SH L0, D4)) (fun _ _ => rfl) ?_
            obtain ⟨x9, hx, h⟩ := bnd h
            refine ev_bind hx 4 (pc' := 93) (L' := fun x9 => [some (.inr (.inr 187)), some (.inl p1), some (.inl p2)]) (S' := fun x9 => [.inl x9]) (σ' := fun x9 => (SH L0, D4)) (fun _ _ => rfl) ?_
            rcases ite_or h with ⟨hc, h⟩ | ⟨hc, h⟩
            · refine ev_ift hc 1 (pc' := 100) (L' := [some (.inr (.inr 187)), some (.inl p1), some (.inl p2)]) (S' := []) (σ' := (SH L0, D4)) (fun _ _ => rfl) ?_
              cases h
              exact ev_ret 2 (fun _ _ => rfl)
            · refine ev_iff hc 1 (pc' := 96) (L' := [some (.inr (.inr 187)), some (.inl p1), some (.inl p2)]) (S' := []) (σ' := (SH L0, D4)) (fun _ _ => rfl) ?_
              cases h
              exact ev_ret 3 (fun _ _ => rfl)
set_option maxRecDepth 100000 in
set_option maxHeartbeats 4000000 in
theorem e_X12_weight (L0 d : Nat) (hd : 9 ≤ d) {p1 p2 : Int} {D : DT} {t0 : (Int × DT)} (h : m_X12_weight p1 p2 D = some t0) : Ret mtab d 259 [.inr (.inr 187), .inl p1, .inl p2] (SH L0, D) (some (.inl t0.1), (SH L0, t0.2)) := by
  obtain ⟨d, rfl⟩ : ∃ e, d = e + 1 := ⟨d - 1, by omega⟩
  refine Ret.of (code := k_X12_weight) (ml := 3) rfl ?_
  show EvF mtab d k_X12_weight 0 [some (.inr (.inr 187)), some (.inl p1), some (.inl p2)] [] (SH L0, D) (some (.inl t0.1), (SH L0, t0.2))
  unfold m_X12_weight at h
  obtain ⟨x1, hx, h⟩ := bnd h
  refine ev_call (e_X12_isFun L0 d (by omega) hx) 5 (pc' := 7) (L' := [some (.inr (.inr 187)), some (.inl p1), some (.inl p2)]) (S' := [.inl 1, .inr (.inr 187)]) (fun _ _ => rfl) ?_
  obtain ⟨t3, hv, h⟩ := bnd h
  have hJ : EvF mtab d k_X12_weight 23 [some (.inr (.inr 187)), some (.inl p1), some (.inl p2)] [.inl t3, .inl 1, .inr (.inr 187)] (SH L0, D) (some (.inl t0.1), (SH L0, t0.2)) := by
    obtain ⟨⟨x4, D5⟩, hx, h⟩ := bnd h
    refine ev_call (e_X12_asks L0 d (by omega) hx) 1 (pc' := 26) (L' := [some (.inr (.inr 187)), some (.inl p1), some (.inl p2)]) (S' := []) (fun _ _ => rfl) ?_
    rcases ite_or h with ⟨hc, h⟩ | ⟨hc, h⟩
    · refine ev_ift hc 1 (pc' := 38) (L' := [some (.inr (.inr 187)), some (.inl p1), some (.inl p2)]) (S' := []) (σ' := (SH L0, D5)) (fun _ _ => rfl) ?_
      cases h
      exact ev_ret 2 (fun _ _ => rfl)
    · refine ev_iff hc 1 (pc' := 29) (L' := [some (.inr (.inr 187)), some (.inl p1), some (.inl p2)]) (S' := []) (σ' := (SH L0, D5)) (fun _ _ => rfl) ?_
      obtain ⟨x6, hx, h⟩ := bnd h
      refine ev_call (e_X12_weightOf L0 d (by omega) hx) 4 (pc' := 35) (L' := [some (.inr (.inr 187)), some (.inl p1), some (.inl p2)]) (S' := []) (fun _ _ => rfl) ?_
      cases h
      exact ev_ret 2 (fun _ _ => rfl)
  clear h
  rcases ite_or hv with ⟨hc, hv⟩ | ⟨hc, hv⟩
  · refine ev_ift hc 1 (pc' := 22) (L' := [some (.inr (.inr 187)), some (.inl p1), some (.inl p2)]) (S' := [.inl 1, .inr (.inr 187)]) (σ' := (SH L0, D)) (fun _ _ => rfl) ?_
    have he0 := Option.some.inj hv
    subst he0
    exact ev_go 1 (pc' := 23) (L' := [some (.inr (.inr 187)), some (.inl p1), some (.inl p2)]) (S' := [.inl 0, .inl 1, .inr (.inr 187)]) (σ' := (SH L0, D)) (fun _ _ => rfl) hJ
  · refine ev_iff hc 1 (pc' := 10) (L' := [some (.inr (.inr 187)), some (.inl p1), some (.inl p2)]) (S' := [.inl 1, .inr (.inr 187)]) (σ' := (SH L0, D)) (fun _ _ => rfl) ?_
    obtain ⟨x2, hx, hv⟩ := bnd hv
    refine ev_call (e_X12_isFun L0 d (by omega) hx) 3 (pc' := 15) (L' := [some (.inr (.inr 187)), some (.inl p1), some (.inl p2)]) (S' := [.inl 1, .inr (.inr 187)]) (fun _ _ => rfl) ?_
    rcases ite_or hv with ⟨hc, hv⟩ | ⟨hc, hv⟩
    · refine ev_ift hc 1 (pc' := 22) (L' := [some (.inr (.inr 187)), some (.inl p1), some (.inl p2)]) (S' := [.inl 1, .inr (.inr 187)]) (σ' := (SH L0, D)) (fun _ _ => rfl) ?_
      have he0 := Option.some.inj hv
      subst he0
      exact ev_go 1 (pc' := 23) (L' := [some (.inr (.inr 187)), some (.inl p1), some (.inl p2)]) (S' := [.inl 0, .inl 1, .inr (.inr 187)]) (σ' := (SH L0, D)) (fun _ _ => rfl) hJ
    · refine ev_iff hc 1 (pc' := 18) (L' := [some (.inr (.inr 187)), some (.inl p1), some (.inl p2)]) (S' := [.inl 1, .inr (.inr 187)]) (σ' := (SH L0, D)) (fun _ _ => rfl) ?_
      have he0 := Option.some.inj hv
      subst he0
      exact ev_go 2 (pc' := 23) (L' := [some (.inr (.inr 187)), some (.inl p1), some (.inl p2)]) (S' := [.inl 1, .inl 1, .inr (.inr 187)]) (σ' := (SH L0, D)) (fun _ _ => rfl) hJ
set_option maxRecDepth 100000 in
set_option maxHeartbeats 4000000 in
theorem e_X12_isHow (L0 d : Nat) (hd : 2 ≤ d) {p0 : Int} {D : DT} {t0 : Int} (h : m_X12_isHow p0 D = some t0) : Ret mtab d 260 [.inl p0] (SH L0, D) (some (.inl t0), (SH L0, D)) := by
  obtain ⟨d, rfl⟩ : ∃ e, d = e + 1 := ⟨d - 1, by omega⟩
  refine Ret.of (code := k_X12_isHow) (ml := 1) rfl ?_
  show EvF mtab d k_X12_isHow 0 [some (.inl p0)] [] (SH L0, D) (some (.inl t0), (SH L0, D))
  unfold m_X12_isHow at h
  obtain ⟨x1, hx, h⟩ := bnd h
  refine ev_call (e_X12_isIn L0 d (by omega) hx) 4 (pc' := 6) (L' := [some (.inl p0)]) (S' := []) (fun _ _ => rfl) ?_
  obtain ⟨x2, hx, h⟩ := bnd h
  cases h
  exact ev_brt hx 1 (fun _ _ => rfl)
set_option maxRecDepth 100000 in
set_option maxHeartbeats 4000000 in
theorem e_X12_order (L0 d : Nat) (hd : 9 ≤ d) {p1 p2 : Int} {D : DT} {t0 : (Int × DT)} (h : m_X12_order p1 p2 D = some t0) : Ret mtab d 261 [.inr (.inr 187), .inl p1, .inl p2] (SH L0, D) (some (.inl t0.1), (SH L0, t0.2)) := by
  obtain ⟨d, rfl⟩ : ∃ e, d = e + 1 := ⟨d - 1, by omega⟩
  refine Ret.of (code := k_X12_order) (ml := 3) rfl ?_
  show EvF mtab d k_X12_order 0 [some (.inr (.inr 187)), some (.inl p1), some (.inl p2)] [] (SH L0, D) (some (.inl t0.1), (SH L0, t0.2))
  unfold m_X12_order at h
  obtain ⟨x1, hx, h⟩ := bnd h
  refine ev_call (e_X12_isHow L0 d (by omega) hx) 3 (pc' := 5) (L' := [some (.inr (.inr 187)), some (.inl p1), some (.inl p2)]) (S' := [.inr (.inr 187)]) (fun _ _ => rfl) ?_
  obtain ⟨t2, hv, h⟩ := bnd h
  have hJ : EvF mtab d k_X12_order 17 [some (.inr (.inr 187)), some (.inl p1), some (.inl p2)] [.inl t2, .inr (.inr 187)] (SH L0, D) (some (.inl t0.1), (SH L0, t0.2)) := by
    obtain ⟨⟨x3, D4⟩, hx, h⟩ := bnd h
    refine ev_call (e_X12_asks L0 d (by omega) hx) 2 (pc' := 21) (L' := [some (.inr (.inr 187)), some (.inl p1), some (.inl p2)]) (S' := []) (fun _ _ => rfl) ?_
    rcases ite_or h with ⟨hc, h⟩ | ⟨hc, h⟩
    · refine ev_ift hc 1 (pc' := 24) (L' := [some (.inr (.inr 187)), some (.inl p1), some (.inl p2)]) (S' := []) (σ' := (SH L0, D4)) (fun _ _ => rfl) ?_
      cases h
      exact ev_ret 2 (fun _ _ => rfl)
    · refine ev_iff hc 1 (pc' := 26) (L' := [some (.inr (.inr 187)), some (.inl p1), some (.inl p2)]) (S' := []) (σ' := (SH L0, D4)) (fun _ _ => rfl) ?_
      obtain ⟨x5, hx, h⟩ := bnd h
      refine ev_call (e_X12_blocks L0 d (by omega) hx) 3 (pc' := 31) (L' := [some (.inr (.inr 187)), some (.inl p1), some (.inl p2)]) (S' := [.inl p2]) (fun _ _ => rfl) ?_
      rcases ite_or h with ⟨hc, h⟩ | ⟨hc, h⟩
      · refine ev_ift hc 1 (pc' := 34) (L' := [some (.inr (.inr 187)), some (.inl p1), some (.inl p2)]) (S' := []) (σ' := (SH L0, D4)) (fun _ _ => rfl) ?_
        obtain ⟨x6, hx, h⟩ := bnd h
        refine ev_bind hx 8 (pc' := 45) (L' := fun x6 => [some (.inr (.inr 187)), some (.inl p1), some (.inl p2)]) (S' := fun x6 => [.inl x6]) (σ' := fun x6 => (SH L0, D4)) (fun _ _ => rfl) ?_
        cases h
        exact ev_ret 2 (fun _ _ => rfl)
      · refine ev_iff hc 1 (pc' := 48) (L' := [some (.inr (.inr 187)), some (.inl p1), some (.inl p2)]) (S' := []) (σ' := (SH L0, D4)) (fun _ _ => rfl) ?_
        obtain ⟨⟨x7, D8⟩, hx, h⟩ := bnd h
        refine ev_call (e_X12_refuse L0 d (by omega) hx) 3 (pc' := 53) (L' := [some (.inr (.inr 187)), some (.inl p1), some (.inl p2)]) (S' := []) (fun _ _ => rfl) ?_
        cases h
        exact ev_ret 1 (fun _ _ => rfl)
  clear h
  rcases ite_or hv with ⟨hc, hv⟩ | ⟨hc, hv⟩
  · refine ev_ift hc 1 (pc' := 16) (L' := [some (.inr (.inr 187)), some (.inl p1), some (.inl p2)]) (S' := [.inr (.inr 187)]) (σ' := (SH L0, D)) (fun _ _ => rfl) ?_
    have he0 := Option.some.inj hv
    subst he0
    exact ev_go 1 (pc' := 17) (L' := [some (.inr (.inr 187)), some (.inl p1), some (.inl p2)]) (S' := [.inl 0, .inr (.inr 187)]) (σ' := (SH L0, D)) (fun _ _ => rfl) hJ
  · refine ev_iff hc 1 (pc' := 8) (L' := [some (.inr (.inr 187)), some (.inl p1), some (.inl p2)]) (S' := [.inr (.inr 187)]) (σ' := (SH L0, D)) (fun _ _ => rfl) ?_
    rcases ite_or hv with ⟨hc, hv⟩ | ⟨hc, hv⟩
    · refine ev_ift hc 2 (pc' := 16) (L' := [some (.inr (.inr 187)), some (.inl p1), some (.inl p2)]) (S' := [.inr (.inr 187)]) (σ' := (SH L0, D)) (fun _ _ => rfl) ?_
      have he0 := Option.some.inj hv
      subst he0
      exact ev_go 1 (pc' := 17) (L' := [some (.inr (.inr 187)), some (.inl p1), some (.inl p2)]) (S' := [.inl 0, .inr (.inr 187)]) (σ' := (SH L0, D)) (fun _ _ => rfl) hJ
    · refine ev_iff hc 2 (pc' := 12) (L' := [some (.inr (.inr 187)), some (.inl p1), some (.inl p2)]) (S' := [.inr (.inr 187)]) (σ' := (SH L0, D)) (fun _ _ => rfl) ?_
      have he0 := Option.some.inj hv
      subst he0
      exact ev_go 2 (pc' := 17) (L' := [some (.inr (.inr 187)), some (.inl p1), some (.inl p2)]) (S' := [.inl 1, .inr (.inr 187)]) (σ' := (SH L0, D)) (fun _ _ => rfl) hJ
set_option maxRecDepth 100000 in
set_option maxHeartbeats 4000000 in
theorem e_X12_place (L0 d : Nat) (hd : 9 ≤ d) {p1 p2 p3 : Int} {D : DT} {t0 : (Int × DT)} (h : m_X12_place p1 p2 p3 D = some t0) : Ret mtab d 262 [.inr (.inr 187), .inl p1, .inl p2, .inl p3] (SH L0, D) (some (.inl t0.1), (SH L0, t0.2)) := by
  obtain ⟨d, rfl⟩ : ∃ e, d = e + 1 := ⟨d - 1, by omega⟩
  refine Ret.of (code := k_X12_place) (ml := 4) rfl ?_
  show EvF mtab d k_X12_place 0 [some (.inr (.inr 187)), some (.inl p1), some (.inl p2), some (.inl p3)] [] (SH L0, D) (some (.inl t0.1), (SH L0, t0.2))
  unfold m_X12_place at h
  obtain ⟨x1, hx, h⟩ := bnd h
  refine ev_call (e_X12_isHow L0 d (by omega) hx) 3 (pc' := 5) (L' := [some (.inr (.inr 187)), some (.inl p1), some (.inl p2), some (.inl p3)]) (S' := [.inr (.inr 187)]) (fun _ _ => rfl) ?_
  obtain ⟨t3, hv, h⟩ := bnd h
  have hJ : EvF mtab d k_X12_place 22 [some (.inr (.inr 187)), some (.inl p1), some (.inl p2), some (.inl p3)] [.inl t3, .inr (.inr 187)] (SH L0, D) (some (.inl t0.1), (SH L0, t0.2)) := by
    obtain ⟨x4, hx, h⟩ := bnd h
    refine ev_call (e_X12_isBlock L0 d (by omega) hx) 3 (pc' := 27) (L' := [some (.inr (.inr 187)), some (.inl p1), some (.inl p2), some (.inl p3)]) (S' := [.inl t3, .inr (.inr 187)]) (fun _ _ => rfl) ?_
    obtain ⟨⟨x5, D6⟩, hx, h⟩ := bnd h
    refine ev_call (e_X12_asks L0 d (by omega) hx) 1 (pc' := 30) (L' := [some (.inr (.inr 187)), some (.inl p1), some (.inl p2), some (.inl p3)]) (S' := []) (fun _ _ => rfl) ?_
    rcases ite_or h with ⟨hc, h⟩ | ⟨hc, h⟩
    · refine ev_ift hc 1 (pc' := 33) (L' := [some (.inr (.inr 187)), some (.inl p1), some (.inl p2), some (.inl p3)]) (S' := []) (σ' := (SH L0, D6)) (fun _ _ => rfl) ?_
      cases h
      exact ev_ret 2 (fun _ _ => rfl)
    · refine ev_iff hc 1 (pc' := 35) (L' := [some (.inr (.inr 187)), some (.inl p1), some (.inl p2), some (.inl p3)]) (S' := []) (σ' := (SH L0, D6)) (fun _ _ => rfl) ?_
      obtain ⟨D7, hx, h⟩ := bnd h
      refine ev_call (e_X12_brings L0 d (by omega) hx) 3 (pc' := 40) (L' := [some (.inr (.inr 187)), some (.inl p1), some (.inl p2), some (.inl p3)]) (S' := []) (fun _ _ => rfl) ?_
      rcases ite_or h with ⟨hc, h⟩ | ⟨hc, h⟩
      · refine ev_ift hc 2 (pc' := 44) (L' := [some (.inr (.inr 187)), some (.inl p1), some (.inl p2), some (.inl p3)]) (S' := []) (σ' := (SH L0, D7)) (fun _ _ => rfl) ?_
        obtain ⟨x8, hx, h⟩ := bnd h
        refine ev_bind hx 4 (pc' := 50) (L' := fun x8 => [some (.inr (.inr 187)), some (.inl p1), some (.inl p2), some (.inl p3)]) (S' := fun x8 => [.inl x8]) (σ' := fun x8 => (SH L0, D7)) (fun _ _ => rfl) ?_
        cases h
        exact ev_ret 2 (fun _ _ => rfl)
      · refine ev_iff hc 2 (pc' := 53) (L' := [some (.inr (.inr 187)), some (.inl p1), some (.inl p2), some (.inl p3)]) (S' := []) (σ' := (SH L0, D7)) (fun _ _ => rfl) ?_
        rcases ite_or h with ⟨hc, h⟩ | ⟨hc, h⟩
        · refine ev_ift hc 3 (pc' := 58) (L' := [some (.inr (.inr 187)), some (.inl p1), some (.inl p2), some (.inl p3)]) (S' := []) (σ' := (SH L0, D7)) (fun _ _ => rfl) ?_
          obtain ⟨x9, hx, h⟩ := bnd h
          refine ev_bind hx 4 (pc' := 64) (L' := fun x9 => [some (.inr (.inr 187)), some (.inl p1), some (.inl p2), some (.inl p3)]) (S' := fun x9 => [.inl x9]) (σ' := fun x9 => (SH L0, D7)) (fun _ _ => rfl) ?_
          cases h
          exact ev_ret 2 (fun _ _ => rfl)
        · refine ev_iff hc 3 (pc' := 67) (L' := [some (.inr (.inr 187)), some (.inl p1), some (.inl p2), some (.inl p3)]) (S' := []) (σ' := (SH L0, D7)) (fun _ _ => rfl) ?_
          rcases ite_or h with ⟨hc, h⟩ | ⟨hc, h⟩
          · refine ev_ift hc 3 (pc' := 72) (L' := [some (.inr (.inr 187)), some (.inl p1), some (.inl p2), some (.inl p3)]) (S' := []) (σ' := (SH L0, D7)) (fun _ _ => rfl) ?_
            obtain ⟨x10, hx, h⟩ := bnd h
            refine ev_bind hx 4 (pc' := 78) (L' := fun x10 => [some (.inr (.inr 187)), some (.inl p1), some (.inl p2), some (.inl p3)]) (S' := fun x10 => [.inl x10]) (σ' := fun x10 => (SH L0, D7)) (fun _ _ => rfl) ?_
            cases h
            exact ev_ret 2 (fun _ _ => rfl)
          · refine ev_iff hc 3 (pc' := 81) (L' := [some (.inr (.inr 187)), some (.inl p1), some (.inl p2), some (.inl p3)]) (S' := []) (σ' := (SH L0, D7)) (fun _ _ => rfl) ?_
            rcases ite_or h with ⟨hc, h⟩ | ⟨hc, h⟩
            · refine ev_ift hc 3 (pc' := 86) (L' := [some (.inr (.inr 187)), some (.inl p1), some (.inl p2), some (.inl p3)]) (S' := []) (σ' := (SH L0, D7)) (fun _ _ => rfl) ?_
              obtain ⟨x11, hx, h⟩ := bnd h
              refine ev_call (e_X12_firstPage L0 d (by omega) hx) 3 (pc' := 91) (L' := [some (.inr (.inr 187)), some (.inl p1), some (.inl p2), some (.inl p3)]) (S' := []) (fun _ _ => rfl) ?_
              cases h
              exact ev_ret 2 (fun _ _ => rfl)
            · refine ev_iff hc 3 (pc' := 94) (L' := [some (.inr (.inr 187)), some (.inl p1), some (.inl p2), some (.inl p3)]) (S' := []) (σ' := (SH L0, D7)) (fun _ _ => rfl) ?_
              obtain ⟨x12, hx, h⟩ := bnd h
              refine ev_call (e_X12_lastPage L0 d (by omega) hx) 3 (pc' := 99) (L' := [some (.inr (.inr 187)), some (.inl p1), some (.inl p2), some (.inl p3)]) (S' := []) (fun _ _ => rfl) ?_
              cases h
              exact ev_ret 1 (fun _ _ => rfl)
  clear h
  rcases ite_or hv with ⟨hc, hv⟩ | ⟨hc, hv⟩
  · refine ev_ift hc 1 (pc' := 21) (L' := [some (.inr (.inr 187)), some (.inl p1), some (.inl p2), some (.inl p3)]) (S' := [.inr (.inr 187)]) (σ' := (SH L0, D)) (fun _ _ => rfl) ?_
    have he0 := Option.some.inj hv
    subst he0
    exact ev_go 1 (pc' := 22) (L' := [some (.inr (.inr 187)), some (.inl p1), some (.inl p2), some (.inl p3)]) (S' := [.inl 0, .inr (.inr 187)]) (σ' := (SH L0, D)) (fun _ _ => rfl) hJ
  · refine ev_iff hc 1 (pc' := 8) (L' := [some (.inr (.inr 187)), some (.inl p1), some (.inl p2), some (.inl p3)]) (S' := [.inr (.inr 187)]) (σ' := (SH L0, D)) (fun _ _ => rfl) ?_
    obtain ⟨x2, hx, hv⟩ := bnd hv
    refine ev_call (e_X12_isIn L0 d (by omega) hx) 4 (pc' := 14) (L' := [some (.inr (.inr 187)), some (.inl p1), some (.inl p2), some (.inl p3)]) (S' := [.inr (.inr 187)]) (fun _ _ => rfl) ?_
    rcases ite_or hv with ⟨hc, hv⟩ | ⟨hc, hv⟩
    · refine ev_ift hc 1 (pc' := 21) (L' := [some (.inr (.inr 187)), some (.inl p1), some (.inl p2), some (.inl p3)]) (S' := [.inr (.inr 187)]) (σ' := (SH L0, D)) (fun _ _ => rfl) ?_
      have he0 := Option.some.inj hv
      subst he0
      exact ev_go 1 (pc' := 22) (L' := [some (.inr (.inr 187)), some (.inl p1), some (.inl p2), some (.inl p3)]) (S' := [.inl 0, .inr (.inr 187)]) (σ' := (SH L0, D)) (fun _ _ => rfl) hJ
    · refine ev_iff hc 1 (pc' := 17) (L' := [some (.inr (.inr 187)), some (.inl p1), some (.inl p2), some (.inl p3)]) (S' := [.inr (.inr 187)]) (σ' := (SH L0, D)) (fun _ _ => rfl) ?_
      have he0 := Option.some.inj hv
      subst he0
      exact ev_go 2 (pc' := 22) (L' := [some (.inr (.inr 187)), some (.inl p1), some (.inl p2), some (.inl p3)]) (S' := [.inl 1, .inr (.inr 187)]) (σ' := (SH L0, D)) (fun _ _ => rfl) hJ
set_option maxRecDepth 100000 in
set_option maxHeartbeats 4000000 in
theorem e_X12_falls_ (L0 d : Nat) (hd : 9 ≤ d) {p1 p2 : Int} {D : DT} {t0 : (Int × DT)} (h : m_X12_falls_ p1 p2 D = some t0) : Ret mtab d 263 [.inr (.inr 187), .inl p1, .inl p2] (SH L0, D) (some (.inl t0.1), (SH L0, t0.2)) := by
  obtain ⟨d, rfl⟩ : ∃ e, d = e + 1 := ⟨d - 1, by omega⟩
  refine Ret.of (code := k_X12_falls_) (ml := 3) rfl ?_
  show EvF mtab d k_X12_falls_ 0 [some (.inr (.inr 187)), some (.inl p1), some (.inl p2)] [] (SH L0, D) (some (.inl t0.1), (SH L0, t0.2))
  unfold m_X12_falls_ at h
  obtain ⟨x1, hx, h⟩ := bnd h
  refine ev_call (e_X12_isHow L0 d (by omega) hx) 3 (pc' := 5) (L' := [some (.inr (.inr 187)), some (.inl p1), some (.inl p2)]) (S' := [.inr (.inr 187)]) (fun _ _ => rfl) ?_
  obtain ⟨x2, hx, h⟩ := bnd h
  refine ev_call (e_X12_isArc L0 d (by omega) hx) 3 (pc' := 10) (L' := [some (.inr (.inr 187)), some (.inl p1), some (.inl p2)]) (S' := [.inl x1, .inr (.inr 187)]) (fun _ _ => rfl) ?_
  obtain ⟨⟨x3, D4⟩, hx, h⟩ := bnd h
  refine ev_call (e_X12_asks L0 d (by omega) hx) 1 (pc' := 13) (L' := [some (.inr (.inr 187)), some (.inl p1), some (.inl p2)]) (S' := []) (fun _ _ => rfl) ?_
  rcases ite_or h with ⟨hc, h⟩ | ⟨hc, h⟩
  · refine ev_ift hc 1 (pc' := 16) (L' := [some (.inr (.inr 187)), some (.inl p1), some (.inl p2)]) (S' := []) (σ' := (SH L0, D4)) (fun _ _ => rfl) ?_
    cases h
    exact ev_ret 2 (fun _ _ => rfl)
  · refine ev_iff hc 1 (pc' := 18) (L' := [some (.inr (.inr 187)), some (.inl p1), some (.inl p2)]) (S' := []) (σ' := (SH L0, D4)) (fun _ _ => rfl) ?_
    obtain ⟨D5, hx, h⟩ := bnd h
    refine ev_call (e_X12_brings L0 d (by omega) hx) 3 (pc' := 23) (L' := [some (.inr (.inr 187)), some (.inl p1), some (.inl p2)]) (S' := []) (fun _ _ => rfl) ?_
    obtain ⟨x6, hx, h⟩ := bnd h
    refine ev_call (e_X12_falls L0 d (by omega) hx) 3 (pc' := 28) (L' := [some (.inr (.inr 187)), some (.inl p1), some (.inl p2)]) (S' := []) (fun _ _ => rfl) ?_
    rcases ite_or h with ⟨hc, h⟩ | ⟨hc, h⟩
    · refine ev_ift hc 1 (pc' := 35) (L' := [some (.inr (.inr 187)), some (.inl p1), some (.inl p2)]) (S' := []) (σ' := (SH L0, D5)) (fun _ _ => rfl) ?_
      cases h
      exact ev_ret 2 (fun _ _ => rfl)
    · refine ev_iff hc 1 (pc' := 31) (L' := [some (.inr (.inr 187)), some (.inl p1), some (.inl p2)]) (S' := []) (σ' := (SH L0, D5)) (fun _ _ => rfl) ?_
      cases h
      exact ev_ret 3 (fun _ _ => rfl)
set_option maxRecDepth 100000 in
set_option maxHeartbeats 4000000 in
theorem e_X12_touched (L0 d : Nat) (hd : 4 ≤ d) {D : DT} {t0 : (Int × DT)} (h : m_X12_touched  D = some t0) : Ret mtab d 264 [.inr (.inr 187)] (SH L0, D) (some (.inl t0.1), (SH L0, t0.2)) := by
  obtain ⟨d, rfl⟩ : ∃ e, d = e + 1 := ⟨d - 1, by omega⟩
  refine Ret.of (code := k_X12_touched) (ml := 4) rfl ?_
  show EvF mtab d k_X12_touched 0 [some (.inr (.inr 187)), none, none, none] [] (SH L0, D) (some (.inl t0.1), (SH L0, t0.2))
  unfold m_X12_touched at h
  obtain ⟨r, hr, h⟩ := bnd h
  have hX : (fun (r : DT) => ∀ (o5 : Option (Sum Int Nat)), EvF mtab d k_X12_touched 22 [some (.inr (.inr 187)), dv o5, none, none] [] (SH L0, r) (some (.inl t0.1), (SH L0, t0.2))) r := by
    obtain ⟨D6, hre⟩ : ∃ q, q = r := ⟨r, rfl⟩
    subst hre
    intro o5
    show EvF mtab d k_X12_touched 22 [some (.inr (.inr 187)), dv o5, none, none] [] (SH L0, D6) (some (.inl t0.1), (SH L0, t0.2))
    obtain ⟨r, hr, h⟩ := bnd h
    have hX : (fun (r : (Int × DT)) => ∀ (o45 : Option (Sum Int Nat)) (o46 : Option (Sum Int Nat)), EvF mtab d k_X12_touched 123 [some (.inr (.inr 187)), some (.inl r.1), dv o45, dv o46] [] (SH L0, r.2) (some (.inl t0.1), (SH L0, t0.2))) r := by
      obtain ⟨l1_44, D47⟩ := r
      intro o45 o46
      show EvF mtab d k_X12_touched 123 [some (.inr (.inr 187)), some (.inl l1_44), dv o45, dv o46] [] (SH L0, D47) (some (.inl t0.1), (SH L0, t0.2))
      cases h
      exact ev_ret 2 (fun _ _ => rfl)
    clear h
    refine ev_go 4 (pc' := 26) (L' := [some (.inr (.inr 187)), some (.inl 0), some (.inl 0), none]) (S' := []) (σ' := (SH L0, D6)) (fun _ _ => rfl) ?_
    refine loop_ind (P := fun s => ∀ (o9 : Option (Sum Int Nat)), EvF mtab d k_X12_touched 26 [some (.inr (.inr 187)), some (.inl s.1), some (.inl s.2.1), dv o9] [] (SH L0, s.2.2) (some (.inl t0.1), (SH L0, t0.2))) (X := fun r => ∀ (o45 : Option (Sum Int Nat)) (o46 : Option (Sum Int Nat)), EvF mtab d k_X12_touched 123 [some (.inr (.inr 187)), some (.inl r.1), dv o45, dv o46] [] (SH L0, r.2) (some (.inl t0.1), (SH L0, t0.2))) hr hX ?_ none
    clear hr hX
    intro s t hb hK0
    obtain ⟨l1_7, l2_8, D10⟩ := s
    intro o9
    show EvF mtab d k_X12_touched 26 [some (.inr (.inr 187)), some (.inl l1_7), some (.inl l2_8), dv o9] [] (SH L0, D10) (some (.inl t0.1), (SH L0, t0.2))
    unfold b_X12_touched_26 at hb
    obtain ⟨x11, hx, hb⟩ := bnd hb
    refine ev_call (e_X12_blocks L0 d (by omega) hx) 3 (pc' := 31) (L' := [some (.inr (.inr 187)), some (.inl l1_7), some (.inl l2_8), dv o9]) (S' := [.inl l2_8]) (fun _ _ => rfl) ?_
    rcases ite_or hb with ⟨hc, hb⟩ | ⟨hc, hb⟩
    · refine ev_ift hc 1 (pc' := 34) (L' := [some (.inr (.inr 187)), some (.inl l1_7), some (.inl l2_8), dv o9]) (S' := []) (σ' := (SH L0, D10)) (fun _ _ => rfl) ?_
      obtain ⟨x12, hx, hb⟩ := bnd hb
      refine ev_call (e_X12_funOf L0 d (by omega) hx) 4 (pc' := 40) (L' := [some (.inr (.inr 187)), some (.inl l1_7), some (.inl l2_8), dv o9]) (S' := [.inr (.inr 187)]) (fun _ _ => rfl) ?_
      obtain ⟨x13, hx, hb⟩ := bnd hb
      refine ev_call (e_X12_traceAt L0 d (by omega) hx) 1 (pc' := 43) (L' := [some (.inr (.inr 187)), some (.inl l1_7), some (.inl l2_8), dv o9]) (S' := []) (fun _ _ => rfl) ?_
      obtain ⟨⟨l1_41, D43⟩, hv, hb⟩ := bnd hb
      have hJ : ∀ (o42 : Option (Sum Int Nat)), EvF mtab d k_X12_touched 117 [some (.inr (.inr 187)), some (.inl l1_41), some (.inl l2_8), dv o42] [] (SH L0, D43) (some (.inl t0.1), (SH L0, t0.2)) := by
        intro o42
        cases hb
        exact ev_go 2 (pc' := 26) (L' := [some (.inr (.inr 187)), some (.inl l1_41), some (.inl (w32 (l2_8 + 1))), dv o42]) (S' := []) (σ' := (SH L0, D43)) (fun _ _ => rfl) (hK0 o42)
      clear hb
      rcases ite_or hv with ⟨hc, hv⟩ | ⟨hc, hv⟩
      · refine ev_ift hc 1 (pc' := 117) (L' := [some (.inr (.inr 187)), some (.inl l1_7), some (.inl l2_8), dv o9]) (S' := []) (σ' := (SH L0, D10)) (fun _ _ => rfl) ?_
        have he0 := Option.some.inj hv
        obtain ⟨ha0, he1⟩ := Prod.mk.inj he0
        clear he0
        subst ha0
        subst he1
        exact hJ o9
      · refine ev_iff hc 1 (pc' := 46) (L' := [some (.inr (.inr 187)), some (.inl l1_7), some (.inl l2_8), dv o9]) (S' := []) (σ' := (SH L0, D10)) (fun _ _ => rfl) ?_
        obtain ⟨x14, hx, hv⟩ := bnd hv
        refine ev_bind hx 4 (pc' := 52) (L' := fun x14 => [some (.inr (.inr 187)), some (.inl l1_7), some (.inl l2_8), dv o9]) (S' := fun x14 => [.inl x14]) (σ' := fun x14 => (SH L0, D10)) (fun _ _ => rfl) ?_
        obtain ⟨x15, hx, hv⟩ := bnd hv
        refine ev_bind hx 4 (pc' := 58) (L' := fun x15 => [some (.inr (.inr 187)), some (.inl l1_7), some (.inl l2_8), dv o9]) (S' := fun x15 => [.inl x15, .inl x14]) (σ' := fun x15 => (SH L0, D10)) (fun _ _ => rfl) ?_
        rcases ite_or hv with ⟨hc, hv⟩ | ⟨hc, hv⟩
        · refine ev_ift hc 1 (pc' := 72) (L' := [some (.inr (.inr 187)), some (.inl l1_7), some (.inl l2_8), dv o9]) (S' := []) (σ' := (SH L0, D10)) (fun _ _ => rfl) ?_
          obtain ⟨x16, hx, hv⟩ := bnd hv
          refine ev_call (e_X12_firstPage L0 d (by omega) hx) 3 (pc' := 77) (L' := [some (.inr (.inr 187)), some (.inl l1_7), some (.inl l2_8), dv o9]) (S' := []) (fun _ _ => rfl) ?_
          obtain ⟨r, hr, hv⟩ := bnd hv
          have hX : (fun (r : (Int × DT)) => ∀ (o26 : Option (Sum Int Nat)), EvF mtab d k_X12_touched 117 [some (.inr (.inr 187)), some (.inl r.1), some (.inl l2_8), dv o26] [] (SH L0, r.2) (some (.inl t0.1), (SH L0, t0.2))) r := by
            obtain ⟨l1_25, D27⟩ := r
            intro o26
            show EvF mtab d k_X12_touched 117 [some (.inr (.inr 187)), some (.inl l1_25), some (.inl l2_8), dv o26] [] (SH L0, D27) (some (.inl t0.1), (SH L0, t0.2))
            have he0 := Option.some.inj hv
            obtain ⟨ha0, he1⟩ := Prod.mk.inj he0
            clear he0
            subst ha0
            subst he1
            exact hJ o26
          clear hv
          refine ev_go 1 (pc' := 78) (L' := [some (.inr (.inr 187)), some (.inl l1_7), some (.inl l2_8), some (.inl x16)]) (S' := []) (σ' := (SH L0, D10)) (fun _ _ => rfl) ?_
          refine loop_ind (P := fun s => EvF mtab d k_X12_touched 78 [some (.inr (.inr 187)), some (.inl s.1), some (.inl l2_8), some (.inl s.2.1)] [] (SH L0, s.2.2) (some (.inl t0.1), (SH L0, t0.2))) (X := fun r => ∀ (o26 : Option (Sum Int Nat)), EvF mtab d k_X12_touched 117 [some (.inr (.inr 187)), some (.inl r.1), some (.inl l2_8), dv o26] [] (SH L0, r.2) (some (.inl t0.1), (SH L0, t0.2))) hr hX ?_
          clear hr hX
          intro s t hb hK0
          obtain ⟨l1_17, l3_18, D19⟩ := s
          show EvF mtab d k_X12_touched 78 [some (.inr (.inr 187)), some (.inl l1_17), some (.inl l2_8), some (.inl l3_18)] [] (SH L0, D19) (some (.inl t0.1), (SH L0, t0.2))
          unfold b_X12_touched_78 at hb
          obtain ⟨x20, hx, hb⟩ := bnd hb
          refine ev_call (e_X12_lastPage L0 d (by omega) hx) 4 (pc' := 84) (L' := [some (.inr (.inr 187)), some (.inl l1_17), some (.inl l2_8), some (.inl l3_18)]) (S' := [.inl l3_18]) (fun _ _ => rfl) ?_
          rcases ite_or hb with ⟨hc, hb⟩ | ⟨hc, hb⟩
          · refine ev_ift hc 1 (pc' := 117) (L' := [some (.inr (.inr 187)), some (.inl l1_17), some (.inl l2_8), some (.inl l3_18)]) (S' := []) (σ' := (SH L0, D19)) (fun _ _ => rfl) ?_
            cases hb
            exact hK0 (some (.inl l3_18))
          · refine ev_iff hc 1 (pc' := 87) (L' := [some (.inr (.inr 187)), some (.inl l1_17), some (.inl l2_8), some (.inl l3_18)]) (S' := []) (σ' := (SH L0, D19)) (fun _ _ => rfl) ?_
            obtain ⟨x21, hx, hb⟩ := bnd hb
            refine ev_bind hx 5 (pc' := 94) (L' := fun x21 => [some (.inr (.inr 187)), some (.inl l1_17), some (.inl l2_8), some (.inl l3_18)]) (S' := fun x21 => [.inl x21, .inl l1_17]) (σ' := fun x21 => (SH L0, D19)) (fun _ _ => rfl) ?_
            obtain ⟨t22, hv, hb⟩ := bnd hb
            have hJ : EvF mtab d k_X12_touched 102 [some (.inr (.inr 187)), some (.inl l1_17), some (.inl l2_8), some (.inl l3_18)] [.inl t22, .inl l1_17] (SH L0, D19) (some (.inl t0.1), (SH L0, t0.2)) := by
              obtain ⟨x23, hx, hb⟩ := bnd hb
              obtain ⟨D24, hy, hb⟩ := bnd hb
              refine ev_bind2 (Y := fun x23 => awr D19 223 512 l3_18 x23) hx hy 7 (pc' := 111) (L' := fun x23 D24 => [some (.inr (.inr 187)), some (.inl (w32 (l1_17 + t22))), some (.inl l2_8), some (.inl l3_18)]) (S' := fun x23 D24 => []) (σ' := fun x23 D24 => (SH L0, D24)) (fun _ _ => rfl) ?_
              cases hb
              exact ev_go 2 (pc' := 78) (L' := [some (.inr (.inr 187)), some (.inl (w32 (l1_17 + t22))), some (.inl l2_8), some (.inl (w32 (l3_18 + 1)))]) (S' := []) (σ' := (SH L0, D24)) (fun _ _ => rfl) hK0
            clear hb
            rcases ite_or hv with ⟨hc, hv⟩ | ⟨hc, hv⟩
            · refine ev_ift hc 1 (pc' := 101) (L' := [some (.inr (.inr 187)), some (.inl l1_17), some (.inl l2_8), some (.inl l3_18)]) (S' := [.inl l1_17]) (σ' := (SH L0, D19)) (fun _ _ => rfl) ?_
              have he0 := Option.some.inj hv
              subst he0
              exact ev_go 1 (pc' := 102) (L' := [some (.inr (.inr 187)), some (.inl l1_17), some (.inl l2_8), some (.inl l3_18)]) (S' := [.inl 1, .inl l1_17]) (σ' := (SH L0, D19)) (fun _ _ => rfl) hJ
            · refine ev_iff hc 1 (pc' := 97) (L' := [some (.inr (.inr 187)), some (.inl l1_17), some (.inl l2_8), some (.inl l3_18)]) (S' := [.inl l1_17]) (σ' := (SH L0, D19)) (fun _ _ => rfl) ?_
              have he0 := Option.some.inj hv
              subst he0
              exact ev_go 2 (pc' := 102) (L' := [some (.inr (.inr 187)), some (.inl l1_17), some (.inl l2_8), some (.inl l3_18)]) (S' := [.inl 0, .inl l1_17]) (σ' := (SH L0, D19)) (fun _ _ => rfl) hJ
        · refine ev_iff hc 1 (pc' := 61) (L' := [some (.inr (.inr 187)), some (.inl l1_7), some (.inl l2_8), dv o9]) (S' := []) (σ' := (SH L0, D10)) (fun _ _ => rfl) ?_
          obtain ⟨x28, hx, hv⟩ := bnd hv
          refine ev_call (e_X12_isEntry L0 d (by omega) hx) 3 (pc' := 66) (L' := [some (.inr (.inr 187)), some (.inl l1_7), some (.inl l2_8), dv o9]) (S' := []) (fun _ _ => rfl) ?_
          rcases ite_or hv with ⟨hc, hv⟩ | ⟨hc, hv⟩
          · refine ev_ift hc 1 (pc' := 69) (L' := [some (.inr (.inr 187)), some (.inl l1_7), some (.inl l2_8), dv o9]) (S' := []) (σ' := (SH L0, D10)) (fun _ _ => rfl) ?_
            have he0 := Option.some.inj hv
            obtain ⟨ha0, he1⟩ := Prod.mk.inj he0
            clear he0
            subst ha0
            subst he1
            exact ev_go 1 (pc' := 117) (L' := [some (.inr (.inr 187)), some (.inl l1_7), some (.inl l2_8), dv o9]) (S' := []) (σ' := (SH L0, D10)) (fun _ _ => rfl) (hJ o9)
          · refine ev_iff hc 1 (pc' := 72) (L' := [some (.inr (.inr 187)), some (.inl l1_7), some (.inl l2_8), dv o9]) (S' := []) (σ' := (SH L0, D10)) (fun _ _ => rfl) ?_
            obtain ⟨x29, hx, hv⟩ := bnd hv
            refine ev_call (e_X12_firstPage L0 d (by omega) hx) 3 (pc' := 77) (L' := [some (.inr (.inr 187)), some (.inl l1_7), some (.inl l2_8), dv o9]) (S' := []) (fun _ _ => rfl) ?_
            obtain ⟨r, hr, hv⟩ := bnd hv
            have hX : (fun (r : (Int × DT)) => ∀ (o39 : Option (Sum Int Nat)), EvF mtab d k_X12_touched 117 [some (.inr (.inr 187)), some (.inl r.1), some (.inl l2_8), dv o39] [] (SH L0, r.2) (some (.inl t0.1), (SH L0, t0.2))) r := by
              obtain ⟨l1_38, D40⟩ := r
              intro o39
              show EvF mtab d k_X12_touched 117 [some (.inr (.inr 187)), some (.inl l1_38), some (.inl l2_8), dv o39] [] (SH L0, D40) (some (.inl t0.1), (SH L0, t0.2))
              have he0 := Option.some.inj hv
              obtain ⟨ha0, he1⟩ := Prod.mk.inj he0
              clear he0
              subst ha0
              subst he1
              exact hJ o39
            clear hv
            refine ev_go 1 (pc' := 78) (L' := [some (.inr (.inr 187)), some (.inl l1_7), some (.inl l2_8), some (.inl x29)]) (S' := []) (σ' := (SH L0, D10)) (fun _ _ => rfl) ?_
            refine loop_ind (P := fun s => EvF mtab d k_X12_touched 78 [some (.inr (.inr 187)), some (.inl s.1), some (.inl l2_8), some (.inl s.2.1)] [] (SH L0, s.2.2) (some (.inl t0.1), (SH L0, t0.2))) (X := fun r => ∀ (o39 : Option (Sum Int Nat)), EvF mtab d k_X12_touched 117 [some (.inr (.inr 187)), some (.inl r.1), some (.inl l2_8), dv o39] [] (SH L0, r.2) (some (.inl t0.1), (SH L0, t0.2))) hr hX ?_
            clear hr hX
            intro s t hb hK0
            obtain ⟨l1_30, l3_31, D32⟩ := s
            show EvF mtab d k_X12_touched 78 [some (.inr (.inr 187)), some (.inl l1_30), some (.inl l2_8), some (.inl l3_31)] [] (SH L0, D32) (some (.inl t0.1), (SH L0, t0.2))
            unfold b_X12_touched_78_2 at hb
            obtain ⟨x33, hx, hb⟩ := bnd hb
            refine ev_call (e_X12_lastPage L0 d (by omega) hx) 4 (pc' := 84) (L' := [some (.inr (.inr 187)), some (.inl l1_30), some (.inl l2_8), some (.inl l3_31)]) (S' := [.inl l3_31]) (fun _ _ => rfl) ?_
            rcases ite_or hb with ⟨hc, hb⟩ | ⟨hc, hb⟩
            · refine ev_ift hc 1 (pc' := 117) (L' := [some (.inr (.inr 187)), some (.inl l1_30), some (.inl l2_8), some (.inl l3_31)]) (S' := []) (σ' := (SH L0, D32)) (fun _ _ => rfl) ?_
              cases hb
              exact hK0 (some (.inl l3_31))
            · refine ev_iff hc 1 (pc' := 87) (L' := [some (.inr (.inr 187)), some (.inl l1_30), some (.inl l2_8), some (.inl l3_31)]) (S' := []) (σ' := (SH L0, D32)) (fun _ _ => rfl) ?_
              obtain ⟨x34, hx, hb⟩ := bnd hb
              refine ev_bind hx 5 (pc' := 94) (L' := fun x34 => [some (.inr (.inr 187)), some (.inl l1_30), some (.inl l2_8), some (.inl l3_31)]) (S' := fun x34 => [.inl x34, .inl l1_30]) (σ' := fun x34 => (SH L0, D32)) (fun _ _ => rfl) ?_
              obtain ⟨t35, hv, hb⟩ := bnd hb
              have hJ : EvF mtab d k_X12_touched 102 [some (.inr (.inr 187)), some (.inl l1_30), some (.inl l2_8), some (.inl l3_31)] [.inl t35, .inl l1_30] (SH L0, D32) (some (.inl t0.1), (SH L0, t0.2)) := by
                obtain ⟨x36, hx, hb⟩ := bnd hb
                obtain ⟨D37, hy, hb⟩ := bnd hb
                refine ev_bind2 (Y := fun x36 => awr D32 223 512 l3_31 x36) hx hy 7 (pc' := 111) (L' := fun x36 D37 => [some (.inr (.inr 187)), some (.inl (w32 (l1_30 + t35))), some (.inl l2_8), some (.inl l3_31)]) (S' := fun x36 D37 => []) (σ' := fun x36 D37 => (SH L0, D37)) (fun _ _ => rfl) ?_
                cases hb
                exact ev_go 2 (pc' := 78) (L' := [some (.inr (.inr 187)), some (.inl (w32 (l1_30 + t35))), some (.inl l2_8), some (.inl (w32 (l3_31 + 1)))]) (S' := []) (σ' := (SH L0, D37)) (fun _ _ => rfl) hK0
              clear hb
              rcases ite_or hv with ⟨hc, hv⟩ | ⟨hc, hv⟩
              · refine ev_ift hc 1 (pc' := 101) (L' := [some (.inr (.inr 187)), some (.inl l1_30), some (.inl l2_8), some (.inl l3_31)]) (S' := [.inl l1_30]) (σ' := (SH L0, D32)) (fun _ _ => rfl) ?_
                have he0 := Option.some.inj hv
                subst he0
                exact ev_go 1 (pc' := 102) (L' := [some (.inr (.inr 187)), some (.inl l1_30), some (.inl l2_8), some (.inl l3_31)]) (S' := [.inl 1, .inl l1_30]) (σ' := (SH L0, D32)) (fun _ _ => rfl) hJ
              · refine ev_iff hc 1 (pc' := 97) (L' := [some (.inr (.inr 187)), some (.inl l1_30), some (.inl l2_8), some (.inl l3_31)]) (S' := [.inl l1_30]) (σ' := (SH L0, D32)) (fun _ _ => rfl) ?_
                have he0 := Option.some.inj hv
                subst he0
                exact ev_go 2 (pc' := 102) (L' := [some (.inr (.inr 187)), some (.inl l1_30), some (.inl l2_8), some (.inl l3_31)]) (S' := [.inl 0, .inl l1_30]) (σ' := (SH L0, D32)) (fun _ _ => rfl) hJ
    · refine ev_iff hc 1 (pc' := 123) (L' := [some (.inr (.inr 187)), some (.inl l1_7), some (.inl l2_8), dv o9]) (S' := []) (σ' := (SH L0, D10)) (fun _ _ => rfl) ?_
      cases hb
      exact hK0 (some (.inl l2_8)) o9
  clear h
  refine ev_go 2 (pc' := 2) (L' := [some (.inr (.inr 187)), some (.inl 0), none, none]) (S' := []) (σ' := (SH L0, D)) (fun _ _ => rfl) ?_
  refine loop_ind (P := fun s => EvF mtab d k_X12_touched 2 [some (.inr (.inr 187)), some (.inl s.1), none, none] [] (SH L0, s.2) (some (.inl t0.1), (SH L0, t0.2))) (X := fun r => ∀ (o5 : Option (Sum Int Nat)), EvF mtab d k_X12_touched 22 [some (.inr (.inr 187)), dv o5, none, none] [] (SH L0, r) (some (.inl t0.1), (SH L0, t0.2))) hr hX ?_
  clear hr hX
  intro s t hb hK0
  obtain ⟨l1_1, D2⟩ := s
  show EvF mtab d k_X12_touched 2 [some (.inr (.inr 187)), some (.inl l1_1), none, none] [] (SH L0, D2) (some (.inl t0.1), (SH L0, t0.2))
  unfold b_X12_touched_2 at hb
  rcases ite_or hb with ⟨hc, hb⟩ | ⟨hc, hb⟩
  · refine ev_ift hc 3 (pc' := 9) (L' := [some (.inr (.inr 187)), some (.inl l1_1), none, none]) (S' := []) (σ' := (SH L0, D2)) (fun _ _ => rfl) ?_
    obtain ⟨x3, hx, hb⟩ := bnd hb
    obtain ⟨D4, hy, hb⟩ := bnd hb
    refine ev_bind2 (Y := fun x3 => awr D2 223 512 l1_1 x3) hx hy 5 (pc' := 16) (L' := fun x3 D4 => [some (.inr (.inr 187)), some (.inl l1_1), none, none]) (S' := fun x3 D4 => []) (σ' := fun x3 D4 => (SH L0, D4)) (fun _ _ => rfl) ?_
    cases hb
    exact ev_go 2 (pc' := 2) (L' := [some (.inr (.inr 187)), some (.inl (w32 (l1_1 + 1))), none, none]) (S' := []) (σ' := (SH L0, D4)) (fun _ _ => rfl) hK0
  · refine ev_iff hc 3 (pc' := 22) (L' := [some (.inr (.inr 187)), some (.inl l1_1), none, none]) (S' := []) (σ' := (SH L0, D2)) (fun _ _ => rfl) ?_
    cases hb
    exact hK0 (some (.inl l1_1))
set_option maxRecDepth 100000 in
set_option maxHeartbeats 4000000 in
theorem e_X12_cost (L0 d : Nat) (hd : 9 ≤ d) {p1 p2 : Int} {D : DT} {t0 : (Int × DT)} (h : m_X12_cost p1 p2 D = some t0) : Ret mtab d 265 [.inr (.inr 187), .inl p1, .inl p2] (SH L0, D) (some (.inl t0.1), (SH L0, t0.2)) := by
  obtain ⟨d, rfl⟩ : ∃ e, d = e + 1 := ⟨d - 1, by omega⟩
  refine Ret.of (code := k_X12_cost) (ml := 5) rfl ?_
  show EvF mtab d k_X12_cost 0 [some (.inr (.inr 187)), some (.inl p1), some (.inl p2), none, none] [] (SH L0, D) (some (.inl t0.1), (SH L0, t0.2))
  unfold m_X12_cost at h
  obtain ⟨x1, hx, h⟩ := bnd h
  refine ev_call (e_X12_isHow L0 d (by omega) hx) 3 (pc' := 5) (L' := [some (.inr (.inr 187)), some (.inl p1), some (.inl p2), none, none]) (S' := [.inr (.inr 187)]) (fun _ _ => rfl) ?_
  obtain ⟨t3, hv, h⟩ := bnd h
  have hJ : EvF mtab d k_X12_cost 22 [some (.inr (.inr 187)), some (.inl p1), some (.inl p2), none, none] [.inl t3, .inr (.inr 187)] (SH L0, D) (some (.inl t0.1), (SH L0, t0.2)) := by
    obtain ⟨⟨x4, D5⟩, hx, h⟩ := bnd h
    refine ev_call (e_X12_asks L0 d (by omega) hx) 2 (pc' := 26) (L' := [some (.inr (.inr 187)), some (.inl p1), some (.inl p2), none, none]) (S' := []) (fun _ _ => rfl) ?_
    rcases ite_or h with ⟨hc, h⟩ | ⟨hc, h⟩
    · refine ev_ift hc 1 (pc' := 29) (L' := [some (.inr (.inr 187)), some (.inl p1), some (.inl p2), none, none]) (S' := []) (σ' := (SH L0, D5)) (fun _ _ => rfl) ?_
      cases h
      exact ev_ret 2 (fun _ _ => rfl)
    · refine ev_iff hc 1 (pc' := 31) (L' := [some (.inr (.inr 187)), some (.inl p1), some (.inl p2), none, none]) (S' := []) (σ' := (SH L0, D5)) (fun _ _ => rfl) ?_
      obtain ⟨D6, hx, h⟩ := bnd h
      refine ev_call (e_X12_brings L0 d (by omega) hx) 3 (pc' := 36) (L' := [some (.inr (.inr 187)), some (.inl p1), some (.inl p2), none, none]) (S' := []) (fun _ _ => rfl) ?_
      rcases ite_or h with ⟨hc0, h⟩ | ⟨hc0, h⟩
      · refine ev_tsw 4 (tgt := 72) (L' := [some (.inr (.inr 187)), some (.inl p1), some (.inl p2), some (.inl 0), none]) (S' := []) (σ' := (SH L0, D6)) (fun _ _ => rfl) (fun g => by simp [tsw, hc0]) ?_
        obtain ⟨x7, hx, h⟩ := bnd h
        refine ev_call (e_X12_jumpsBy L0 d (by omega) hx) 3 (pc' := 77) (L' := [some (.inr (.inr 187)), some (.inl p1), some (.inl p2), some (.inl 0), none]) (S' := []) (fun _ _ => rfl) ?_
        cases h
        exact ev_ret 1 (fun _ _ => rfl)
      rcases ite_or h with ⟨hc1, h⟩ | ⟨hc1, h⟩
      · refine ev_tsw 4 (tgt := 78) (L' := [some (.inr (.inr 187)), some (.inl p1), some (.inl p2), some (.inl 0), none]) (S' := []) (σ' := (SH L0, D6)) (fun _ _ => rfl) (fun g => by simp [tsw, hc0, hc1]) ?_
        obtain ⟨x8, hx, h⟩ := bnd h
        refine ev_call (e_X12_allBytes L0 d (by omega) hx) 2 (pc' := 82) (L' := [some (.inr (.inr 187)), some (.inl p1), some (.inl p2), some (.inl 0), none]) (S' := []) (fun _ _ => rfl) ?_
        cases h
        exact ev_ret 1 (fun _ _ => rfl)
      rcases ite_or h with ⟨hc2, h⟩ | ⟨hc2, h⟩
      · refine ev_tsw 4 (tgt := 83) (L' := [some (.inr (.inr 187)), some (.inl p1), some (.inl p2), some (.inl 0), none]) (S' := []) (σ' := (SH L0, D6)) (fun _ _ => rfl) (fun g => by simp [tsw, hc0, hc1, hc2]) ?_
        obtain ⟨r, hr, h⟩ := bnd h
        have hX : (fun (r : Int) => ∀ (o17 : Option (Sum Int Nat)), EvF mtab d k_X12_cost 132 [some (.inr (.inr 187)), some (.inl p1), some (.inl p2), some (.inl r), dv o17] [] (SH L0, D6) (some (.inl t0.1), (SH L0, t0.2))) r := by
          obtain ⟨l3_16, hre⟩ : ∃ q, q = r := ⟨r, rfl⟩
          subst hre
          intro o17
          show EvF mtab d k_X12_cost 132 [some (.inr (.inr 187)), some (.inl p1), some (.inl p2), some (.inl l3_16), dv o17] [] (SH L0, D6) (some (.inl t0.1), (SH L0, t0.2))
          cases h
          exact ev_ret 2 (fun _ _ => rfl)
        clear h
        refine ev_go 2 (pc' := 86) (L' := [some (.inr (.inr 187)), some (.inl p1), some (.inl p2), some (.inl 0), some (.inl 0)]) (S' := []) (σ' := (SH L0, D6)) (fun _ _ => rfl) ?_
        refine loop_ind (P := fun s => EvF mtab d k_X12_cost 86 [some (.inr (.inr 187)), some (.inl p1), some (.inl p2), some (.inl s.1), some (.inl s.2)] [] (SH L0, D6) (some (.inl t0.1), (SH L0, t0.2))) (X := fun r => ∀ (o17 : Option (Sum Int Nat)), EvF mtab d k_X12_cost 132 [some (.inr (.inr 187)), some (.inl p1), some (.inl p2), some (.inl r), dv o17] [] (SH L0, D6) (some (.inl t0.1), (SH L0, t0.2))) hr hX ?_
        clear hr hX
        intro s t hb hK0
        obtain ⟨l3_9, l4_10⟩ := s
        show EvF mtab d k_X12_cost 86 [some (.inr (.inr 187)), some (.inl p1), some (.inl p2), some (.inl l3_9), some (.inl l4_10)] [] (SH L0, D6) (some (.inl t0.1), (SH L0, t0.2))
        unfold b_X12_cost_86 at hb
        obtain ⟨x11, hx, hb⟩ := bnd hb
        refine ev_call (e_X12_blocks L0 d (by omega) hx) 3 (pc' := 92) (L' := [some (.inr (.inr 187)), some (.inl p1), some (.inl p2), some (.inl l3_9), some (.inl l4_10)]) (S' := [.inl l4_10]) (fun _ _ => rfl) ?_
        rcases ite_or hb with ⟨hc, hb⟩ | ⟨hc, hb⟩
        · refine ev_ift hc 1 (pc' := 95) (L' := [some (.inr (.inr 187)), some (.inl p1), some (.inl p2), some (.inl l3_9), some (.inl l4_10)]) (S' := []) (σ' := (SH L0, D6)) (fun _ _ => rfl) ?_
          obtain ⟨x12, hx, hb⟩ := bnd hb
          refine ev_call (e_X12_endOf L0 d (by omega) hx) 4 (pc' := 102) (L' := [some (.inr (.inr 187)), some (.inl p1), some (.inl p2), some (.inl l3_9), some (.inl l4_10)]) (S' := [.inl l3_9]) (fun _ _ => rfl) ?_
          obtain ⟨t15, hv, hb⟩ := bnd hb
          have hJ : EvF mtab d k_X12_cost 124 [some (.inr (.inr 187)), some (.inl p1), some (.inl p2), some (.inl l3_9), some (.inl l4_10)] [.inl t15, .inl l3_9] (SH L0, D6) (some (.inl t0.1), (SH L0, t0.2)) := by
            cases hb
            exact ev_go 4 (pc' := 86) (L' := [some (.inr (.inr 187)), some (.inl p1), some (.inl p2), some (.inl (w32 (l3_9 + t15))), some (.inl (w32 (l4_10 + 1)))]) (S' := []) (σ' := (SH L0, D6)) (fun _ _ => rfl) hK0
          clear hb
          rcases ite_or hv with ⟨hc, hv⟩ | ⟨hc, hv⟩
          · refine ev_ift hc 2 (pc' := 106) (L' := [some (.inr (.inr 187)), some (.inl p1), some (.inl p2), some (.inl l3_9), some (.inl l4_10)]) (S' := [.inl l3_9]) (σ' := (SH L0, D6)) (fun _ _ => rfl) ?_
            obtain ⟨x13, hx, hv⟩ := bnd hv
            refine ev_call (e_X12_firstArc L0 d (by omega) hx) 4 (pc' := 113) (L' := [some (.inr (.inr 187)), some (.inl p1), some (.inl p2), some (.inl l3_9), some (.inl l4_10)]) (S' := [.inr (.inr 187), .inl l3_9]) (fun _ _ => rfl) ?_
            obtain ⟨x14, hx, hv⟩ := bnd hv
            refine ev_call (e_X12_falls L0 d (by omega) hx) 1 (pc' := 116) (L' := [some (.inr (.inr 187)), some (.inl p1), some (.inl p2), some (.inl l3_9), some (.inl l4_10)]) (S' := [.inl l3_9]) (fun _ _ => rfl) ?_
            rcases ite_or hv with ⟨hc, hv⟩ | ⟨hc, hv⟩
            · refine ev_ift hc 1 (pc' := 123) (L' := [some (.inr (.inr 187)), some (.inl p1), some (.inl p2), some (.inl l3_9), some (.inl l4_10)]) (S' := [.inl l3_9]) (σ' := (SH L0, D6)) (fun _ _ => rfl) ?_
              have he0 := Option.some.inj hv
              subst he0
              exact ev_go 1 (pc' := 124) (L' := [some (.inr (.inr 187)), some (.inl p1), some (.inl p2), some (.inl l3_9), some (.inl l4_10)]) (S' := [.inl 0, .inl l3_9]) (σ' := (SH L0, D6)) (fun _ _ => rfl) hJ
            · refine ev_iff hc 1 (pc' := 119) (L' := [some (.inr (.inr 187)), some (.inl p1), some (.inl p2), some (.inl l3_9), some (.inl l4_10)]) (S' := [.inl l3_9]) (σ' := (SH L0, D6)) (fun _ _ => rfl) ?_
              have he0 := Option.some.inj hv
              subst he0
              exact ev_go 2 (pc' := 124) (L' := [some (.inr (.inr 187)), some (.inl p1), some (.inl p2), some (.inl l3_9), some (.inl l4_10)]) (S' := [.inl 1, .inl l3_9]) (σ' := (SH L0, D6)) (fun _ _ => rfl) hJ
          · refine ev_iff hc 2 (pc' := 123) (L' := [some (.inr (.inr 187)), some (.inl p1), some (.inl p2), some (.inl l3_9), some (.inl l4_10)]) (S' := [.inl l3_9]) (σ' := (SH L0, D6)) (fun _ _ => rfl) ?_
            have he0 := Option.some.inj hv
            subst he0
            exact ev_go 1 (pc' := 124) (L' := [some (.inr (.inr 187)), some (.inl p1), some (.inl p2), some (.inl l3_9), some (.inl l4_10)]) (S' := [.inl 0, .inl l3_9]) (σ' := (SH L0, D6)) (fun _ _ => rfl) hJ
        · refine ev_iff hc 1 (pc' := 132) (L' := [some (.inr (.inr 187)), some (.inl p1), some (.inl p2), some (.inl l3_9), some (.inl l4_10)]) (S' := []) (σ' := (SH L0, D6)) (fun _ _ => rfl) ?_
          cases hb
          exact hK0 (some (.inl l4_10))
      rcases ite_or h with ⟨hc3, h⟩ | ⟨hc3, h⟩
      · refine ev_tsw 4 (tgt := 134) (L' := [some (.inr (.inr 187)), some (.inl p1), some (.inl p2), some (.inl 0), none]) (S' := []) (σ' := (SH L0, D6)) (fun _ _ => rfl) (fun g => by simp [tsw, hc0, hc1, hc2, hc3]) ?_
        obtain ⟨x18, hx, h⟩ := bnd h
        refine ev_call (e_X12_allBytes L0 d (by omega) hx) 2 (pc' := 138) (L' := [some (.inr (.inr 187)), some (.inl p1), some (.inl p2), some (.inl 0), none]) (S' := []) (fun _ _ => rfl) ?_
        obtain ⟨x19, hx, h⟩ := bnd h
        refine ev_bind hx 4 (pc' := 144) (L' := fun x19 => [some (.inr (.inr 187)), some (.inl p1), some (.inl p2), some (.inl 0), none]) (S' := fun x19 => [.inl x19, .inl x18]) (σ' := fun x19 => (SH L0, D6)) (fun _ _ => rfl) ?_
        obtain ⟨x20, hx, h⟩ := bnd h
        refine ev_bind hx 7 (pc' := 153) (L' := fun x20 => [some (.inr (.inr 187)), some (.inl p1), some (.inl p2), some (.inl 0), none]) (S' := fun x20 => [.inl x20, .inl (w32 ((w32 (x18 + x19)) - 1))]) (σ' := fun x20 => (SH L0, D6)) (fun _ _ => rfl) ?_
        obtain ⟨x21, hx, h⟩ := bnd h
        refine ev_bind hx 1 (pc' := 154) (L' := fun x21 => [some (.inr (.inr 187)), some (.inl p1), some (.inl p2), some (.inl 0), none]) (S' := fun x21 => [.inl x21]) (σ' := fun x21 => (SH L0, D6)) (fun _ _ => rfl) ?_
        cases h
        exact ev_ret 1 (fun _ _ => rfl)
      rcases ite_or h with ⟨hc4, h⟩ | ⟨hc4, h⟩
      · refine ev_tsw 4 (tgt := 155) (L' := [some (.inr (.inr 187)), some (.inl p1), some (.inl p2), some (.inl 0), none]) (S' := []) (σ' := (SH L0, D6)) (fun _ _ => rfl) (fun g => by simp [tsw, hc0, hc1, hc2, hc3, hc4]) ?_
        obtain ⟨⟨x22, D23⟩, hx, h⟩ := bnd h
        refine ev_call (e_X12_touched L0 d (by omega) hx) 2 (pc' := 159) (L' := [some (.inr (.inr 187)), some (.inl p1), some (.inl p2), some (.inl 0), none]) (S' := []) (fun _ _ => rfl) ?_
        cases h
        exact ev_ret 1 (fun _ _ => rfl)
      refine ev_tsw 4 (tgt := 160) (L' := [some (.inr (.inr 187)), some (.inl p1), some (.inl p2), some (.inl 0), none]) (S' := []) (σ' := (SH L0, D6)) (fun _ _ => rfl) (fun g => by simp [tsw, hc0, hc1, hc2, hc3, hc4]) ?_
      obtain ⟨r, hr, h⟩ := bnd h
      have hX : (fun (r : Int) => ∀ (o30 : Option (Sum Int Nat)), EvF mtab d k_X12_cost 195 [some (.inr (.inr 187)), some (.inl p1), some (.inl p2), some (.inl r), dv o30] [] (SH L0, D6) (some (.inl t0.1), (SH L0, t0.2))) r := by
        obtain ⟨l3_29, hre⟩ : ∃ q, q = r := ⟨r, rfl⟩
        subst hre
        intro o30
        show EvF mtab d k_X12_cost 195 [some (.inr (.inr 187)), some (.inl p1), some (.inl p2), some (.inl l3_29), dv o30] [] (SH L0, D6) (some (.inl t0.1), (SH L0, t0.2))
        cases h
        exact ev_ret 2 (fun _ _ => rfl)
      clear h
      refine ev_go 2 (pc' := 163) (L' := [some (.inr (.inr 187)), some (.inl p1), some (.inl p2), some (.inl 0), some (.inl 0)]) (S' := []) (σ' := (SH L0, D6)) (fun _ _ => rfl) ?_
      refine loop_ind (P := fun s => EvF mtab d k_X12_cost 163 [some (.inr (.inr 187)), some (.inl p1), some (.inl p2), some (.inl s.1), some (.inl s.2)] [] (SH L0, D6) (some (.inl t0.1), (SH L0, t0.2))) (X := fun r => ∀ (o30 : Option (Sum Int Nat)), EvF mtab d k_X12_cost 195 [some (.inr (.inr 187)), some (.inl p1), some (.inl p2), some (.inl r), dv o30] [] (SH L0, D6) (some (.inl t0.1), (SH L0, t0.2))) hr hX ?_
      clear hr hX
      intro s t hb hK0
      obtain ⟨l3_24, l4_25⟩ := s
      show EvF mtab d k_X12_cost 163 [some (.inr (.inr 187)), some (.inl p1), some (.inl p2), some (.inl l3_24), some (.inl l4_25)] [] (SH L0, D6) (some (.inl t0.1), (SH L0, t0.2))
      unfold b_X12_cost_163 at hb
      obtain ⟨x26, hx, hb⟩ := bnd hb
      refine ev_call (e_X12_arcs L0 d (by omega) hx) 3 (pc' := 169) (L' := [some (.inr (.inr 187)), some (.inl p1), some (.inl p2), some (.inl l3_24), some (.inl l4_25)]) (S' := [.inl l4_25]) (fun _ _ => rfl) ?_
      rcases ite_or hb with ⟨hc, hb⟩ | ⟨hc, hb⟩
      · refine ev_ift hc 1 (pc' := 172) (L' := [some (.inr (.inr 187)), some (.inl p1), some (.inl p2), some (.inl l3_24), some (.inl l4_25)]) (S' := []) (σ' := (SH L0, D6)) (fun _ _ => rfl) ?_
        obtain ⟨x27, hx, hb⟩ := bnd hb
        refine ev_call (e_X12_falls L0 d (by omega) hx) 4 (pc' := 179) (L' := [some (.inr (.inr 187)), some (.inl p1), some (.inl p2), some (.inl l3_24), some (.inl l4_25)]) (S' := [.inl l3_24]) (fun _ _ => rfl) ?_
        obtain ⟨t28, hv, hb⟩ := bnd hb
        have hJ : EvF mtab d k_X12_cost 187 [some (.inr (.inr 187)), some (.inl p1), some (.inl p2), some (.inl l3_24), some (.inl l4_25)] [.inl t28, .inl l3_24] (SH L0, D6) (some (.inl t0.1), (SH L0, t0.2)) := by
          cases hb
          exact ev_go 4 (pc' := 163) (L' := [some (.inr (.inr 187)), some (.inl p1), some (.inl p2), some (.inl (w32 (l3_24 + t28))), some (.inl (w32 (l4_25 + 1)))]) (S' := []) (σ' := (SH L0, D6)) (fun _ _ => rfl) hK0
        clear hb
        rcases ite_or hv with ⟨hc, hv⟩ | ⟨hc, hv⟩
        · refine ev_ift hc 1 (pc' := 186) (L' := [some (.inr (.inr 187)), some (.inl p1), some (.inl p2), some (.inl l3_24), some (.inl l4_25)]) (S' := [.inl l3_24]) (σ' := (SH L0, D6)) (fun _ _ => rfl) ?_
          have he0 := Option.some.inj hv
          subst he0
          exact ev_go 1 (pc' := 187) (L' := [some (.inr (.inr 187)), some (.inl p1), some (.inl p2), some (.inl l3_24), some (.inl l4_25)]) (S' := [.inl 0, .inl l3_24]) (σ' := (SH L0, D6)) (fun _ _ => rfl) hJ
        · refine ev_iff hc 1 (pc' := 182) (L' := [some (.inr (.inr 187)), some (.inl p1), some (.inl p2), some (.inl l3_24), some (.inl l4_25)]) (S' := [.inl l3_24]) (σ' := (SH L0, D6)) (fun _ _ => rfl) ?_
          have he0 := Option.some.inj hv
          subst he0
          exact ev_go 2 (pc' := 187) (L' := [some (.inr (.inr 187)), some (.inl p1), some (.inl p2), some (.inl l3_24), some (.inl l4_25)]) (S' := [.inl 1, .inl l3_24]) (σ' := (SH L0, D6)) (fun _ _ => rfl) hJ
      · refine ev_iff hc 1 (pc' := 195) (L' := [some (.inr (.inr 187)), some (.inl p1), some (.inl p2), some (.inl l3_24), some (.inl l4_25)]) (S' := []) (σ' := (SH L0, D6)) (fun _ _ => rfl) ?_
        cases hb
        exact hK0 (some (.inl l4_25))
  clear h
  rcases ite_or hv with ⟨hc, hv⟩ | ⟨hc, hv⟩
  · refine ev_ift hc 1 (pc' := 21) (L' := [some (.inr (.inr 187)), some (.inl p1), some (.inl p2), none, none]) (S' := [.inr (.inr 187)]) (σ' := (SH L0, D)) (fun _ _ => rfl) ?_
    have he0 := Option.some.inj hv
    subst he0
    exact ev_go 1 (pc' := 22) (L' := [some (.inr (.inr 187)), some (.inl p1), some (.inl p2), none, none]) (S' := [.inl 0, .inr (.inr 187)]) (σ' := (SH L0, D)) (fun _ _ => rfl) hJ
  · refine ev_iff hc 1 (pc' := 8) (L' := [some (.inr (.inr 187)), some (.inl p1), some (.inl p2), none, none]) (S' := [.inr (.inr 187)]) (σ' := (SH L0, D)) (fun _ _ => rfl) ?_
    obtain ⟨x2, hx, hv⟩ := bnd hv
    refine ev_call (e_X12_isIn L0 d (by omega) hx) 4 (pc' := 14) (L' := [some (.inr (.inr 187)), some (.inl p1), some (.inl p2), none, none]) (S' := [.inr (.inr 187)]) (fun _ _ => rfl) ?_
    rcases ite_or hv with ⟨hc, hv⟩ | ⟨hc, hv⟩
    · refine ev_ift hc 1 (pc' := 21) (L' := [some (.inr (.inr 187)), some (.inl p1), some (.inl p2), none, none]) (S' := [.inr (.inr 187)]) (σ' := (SH L0, D)) (fun _ _ => rfl) ?_
      have he0 := Option.some.inj hv
      subst he0
      exact ev_go 1 (pc' := 22) (L' := [some (.inr (.inr 187)), some (.inl p1), some (.inl p2), none, none]) (S' := [.inl 0, .inr (.inr 187)]) (σ' := (SH L0, D)) (fun _ _ => rfl) hJ
    · refine ev_iff hc 1 (pc' := 17) (L' := [some (.inr (.inr 187)), some (.inl p1), some (.inl p2), none, none]) (S' := [.inr (.inr 187)]) (σ' := (SH L0, D)) (fun _ _ => rfl) ?_
      have he0 := Option.some.inj hv
      subst he0
      exact ev_go 2 (pc' := 22) (L' := [some (.inr (.inr 187)), some (.inl p1), some (.inl p2), none, none]) (S' := [.inl 1, .inr (.inr 187)]) (σ' := (SH L0, D)) (fun _ _ => rfl) hJ
set_option maxRecDepth 100000 in
set_option maxHeartbeats 4000000 in
theorem e_X12_jumps (L0 d : Nat) (hd : 9 ≤ d) {p1 p2 : Int} {D : DT} {t0 : (Int × DT)} (h : m_X12_jumps p1 p2 D = some t0) : Ret mtab d 266 [.inr (.inr 187), .inl p1, .inl p2] (SH L0, D) (some (.inl t0.1), (SH L0, t0.2)) := by
  obtain ⟨d, rfl⟩ : ∃ e, d = e + 1 := ⟨d - 1, by omega⟩
  refine Ret.of (code := k_X12_jumps) (ml := 3) rfl ?_
  show EvF mtab d k_X12_jumps 0 [some (.inr (.inr 187)), some (.inl p1), some (.inl p2)] [] (SH L0, D) (some (.inl t0.1), (SH L0, t0.2))
  unfold m_X12_jumps at h
  obtain ⟨x1, hx, h⟩ := bnd h
  refine ev_call (e_X12_isHow L0 d (by omega) hx) 3 (pc' := 5) (L' := [some (.inr (.inr 187)), some (.inl p1), some (.inl p2)]) (S' := [.inr (.inr 187)]) (fun _ _ => rfl) ?_
  obtain ⟨x2, hx, h⟩ := bnd h
  refine ev_call (e_X12_isFun L0 d (by omega) hx) 3 (pc' := 10) (L' := [some (.inr (.inr 187)), some (.inl p1), some (.inl p2)]) (S' := [.inl x1, .inr (.inr 187)]) (fun _ _ => rfl) ?_
  obtain ⟨⟨x3, D4⟩, hx, h⟩ := bnd h
  refine ev_call (e_X12_asks L0 d (by omega) hx) 1 (pc' := 13) (L' := [some (.inr (.inr 187)), some (.inl p1), some (.inl p2)]) (S' := []) (fun _ _ => rfl) ?_
  rcases ite_or h with ⟨hc, h⟩ | ⟨hc, h⟩
  · refine ev_ift hc 1 (pc' := 16) (L' := [some (.inr (.inr 187)), some (.inl p1), some (.inl p2)]) (S' := []) (σ' := (SH L0, D4)) (fun _ _ => rfl) ?_
    cases h
    exact ev_ret 2 (fun _ _ => rfl)
  · refine ev_iff hc 1 (pc' := 18) (L' := [some (.inr (.inr 187)), some (.inl p1), some (.inl p2)]) (S' := []) (σ' := (SH L0, D4)) (fun _ _ => rfl) ?_
    obtain ⟨D5, hx, h⟩ := bnd h
    refine ev_call (e_X12_brings L0 d (by omega) hx) 3 (pc' := 23) (L' := [some (.inr (.inr 187)), some (.inl p1), some (.inl p2)]) (S' := []) (fun _ _ => rfl) ?_
    obtain ⟨x6, hx, h⟩ := bnd h
    refine ev_call (e_X12_jumpsBy L0 d (by omega) hx) 3 (pc' := 28) (L' := [some (.inr (.inr 187)), some (.inl p1), some (.inl p2)]) (S' := []) (fun _ _ => rfl) ?_
    cases h
    exact ev_ret 1 (fun _ _ => rfl)
set_option maxRecDepth 100000 in
set_option maxHeartbeats 4000000 in
theorem e_X12_tries_n : ∀ (n : Nat) (L0 d : Nat) (_ : n + 4 ≤ d) {p1 p2 p3 : Int} {D : DT} {t0 : DT} (_ : m_X12_tries n p1 p2 p3 D = some t0), Ret mtab d 267 [.inr (.inr 187), .inl p1, .inl p2, .inl p3] (SH L0, D) (none, (SH L0, t0)) := by
  intro n
  induction n with
  | zero => intro L0 d _ p1 p2 p3 D t0 h; cases h
  | succ n ih =>
    intro L0 d hd p1 p2 p3 D t0 h
    obtain ⟨d, rfl⟩ : ∃ e, d = e + 1 := ⟨d - 1, by omega⟩
    refine Ret.of (code := k_X12_tries) (ml := 5) rfl ?_
    show EvF mtab d k_X12_tries 0 [some (.inr (.inr 187)), some (.inl p1), some (.inl p2), some (.inl p3), none] [] (SH L0, D) (none, (SH L0, t0))
    have h : m_X12_tries_F (m_X12_tries n) p1 p2 p3 D = some t0 := h
    unfold m_X12_tries_F at h
    rcases ite_or h with ⟨hc, h⟩ | ⟨hc, h⟩
    · refine ev_ift hc 3 (pc' := 5) (L' := [some (.inr (.inr 187)), some (.inl p1), some (.inl p2), some (.inl p3), none]) (S' := []) (σ' := (SH L0, D)) (fun _ _ => rfl) ?_
      obtain ⟨x1, hx, h⟩ := bnd h
      refine ev_call (e_X12_jumpsIn_187_224 L0 d (by omega) hx) 6 (pc' := 15) (L' := [some (.inr (.inr 187)), some (.inl p1), some (.inl p2), some (.inl p3), none]) (S' := []) (fun _ _ => rfl) ?_
      obtain ⟨t2, hv, h⟩ := bnd h
      have hJ : EvF mtab d k_X12_tries 43 [some (.inr (.inr 187)), some (.inl p1), some (.inl p2), some (.inl p3), some (.inl x1)] [.inl t2, .inr (.inr 187)] (SH L0, D) (none, (SH L0, t0)) := by
        cases h
        exact ev_ret 2 (fun _ _ => rfl)
      clear h
      rcases ite_or hv with ⟨hc, hv⟩ | ⟨hc, hv⟩
      · refine ev_ift hc 5 (pc' := 34) (L' := [some (.inr (.inr 187)), some (.inl p1), some (.inl p2), some (.inl p3), some (.inl x1)]) (S' := [.inr (.inr 187)]) (σ' := (SH L0, D)) (fun _ _ => rfl) ?_
        have he0 := Option.some.inj hv
        subst he0
        exact ev_go 2 (pc' := 43) (L' := [some (.inr (.inr 187)), some (.inl p1), some (.inl p2), some (.inl p3), some (.inl x1)]) (S' := [.inl x1, .inr (.inr 187)]) (σ' := (SH L0, D)) (fun _ _ => rfl) hJ
      · refine ev_iff hc 5 (pc' := 25) (L' := [some (.inr (.inr 187)), some (.inl p1), some (.inl p2), some (.inl p3), some (.inl x1)]) (S' := [.inr (.inr 187)]) (σ' := (SH L0, D)) (fun _ _ => rfl) ?_
        rcases ite_or hv with ⟨hc, hv⟩ | ⟨hc, hv⟩
        · refine ev_ift hc 4 (pc' := 34) (L' := [some (.inr (.inr 187)), some (.inl p1), some (.inl p2), some (.inl p3), some (.inl x1)]) (S' := [.inr (.inr 187)]) (σ' := (SH L0, D)) (fun _ _ => rfl) ?_
          have he0 := Option.some.inj hv
          subst he0
          exact ev_go 2 (pc' := 43) (L' := [some (.inr (.inr 187)), some (.inl p1), some (.inl p2), some (.inl p3), some (.inl x1)]) (S' := [.inl x1, .inr (.inr 187)]) (σ' := (SH L0, D)) (fun _ _ => rfl) hJ
        · refine ev_iff hc 4 (pc' := 39) (L' := [some (.inr (.inr 187)), some (.inl p1), some (.inl p2), some (.inl p3), some (.inl x1)]) (S' := [.inr (.inr 187)]) (σ' := (SH L0, D)) (fun _ _ => rfl) ?_
          have he0 := Option.some.inj hv
          subst he0
          exact ev_go 2 (pc' := 43) (L' := [some (.inr (.inr 187)), some (.inl p1), some (.inl p2), some (.inl p3), some (.inl x1)]) (S' := [.inl (D 187 54), .inr (.inr 187)]) (σ' := (SH L0, D)) (fun _ _ => rfl) hJ
    · refine ev_iff hc 3 (pc' := 47) (L' := [some (.inr (.inr 187)), some (.inl p1), some (.inl p2), some (.inl p3), none]) (S' := []) (σ' := (SH L0, D)) (fun _ _ => rfl) ?_
      obtain ⟨r, hr, h⟩ := bnd h
      have hX : (fun (r : DT) => ∀ (o11 : Option (Sum Int Nat)), EvF mtab d k_X12_tries 110 [some (.inr (.inr 187)), some (.inl p1), some (.inl p2), some (.inl p3), dv o11] [] (SH L0, r) (none, (SH L0, t0))) r := by
        obtain ⟨D12, hre⟩ : ∃ q, q = r := ⟨r, rfl⟩
        subst hre
        intro o11
        show EvF mtab d k_X12_tries 110 [some (.inr (.inr 187)), some (.inl p1), some (.inl p2), some (.inl p3), dv o11] [] (SH L0, D12) (none, (SH L0, t0))
        cases h
        exact ev_ret 1 (fun _ _ => rfl)
      clear h
      refine ev_go 2 (pc' := 50) (L' := [some (.inr (.inr 187)), some (.inl p1), some (.inl p2), some (.inl p3), some (.inl 0)]) (S' := []) (σ' := (SH L0, D)) (fun _ _ => rfl) ?_
      refine loop_ind (P := fun s => EvF mtab d k_X12_tries 50 [some (.inr (.inr 187)), some (.inl p1), some (.inl p2), some (.inl p3), some (.inl s.1)] [] (SH L0, s.2) (none, (SH L0, t0))) (X := fun r => ∀ (o11 : Option (Sum Int Nat)), EvF mtab d k_X12_tries 110 [some (.inr (.inr 187)), some (.inl p1), some (.inl p2), some (.inl p3), dv o11] [] (SH L0, r) (none, (SH L0, t0))) hr hX ?_
      clear hr hX
      intro s t hb hK0
      obtain ⟨l4_3, D4⟩ := s
      show EvF mtab d k_X12_tries 50 [some (.inr (.inr 187)), some (.inl p1), some (.inl p2), some (.inl p3), some (.inl l4_3)] [] (SH L0, D4) (none, (SH L0, t0))
      unfold b_X12_tries_50 at hb
      obtain ⟨x5, hx, hb⟩ := bnd hb
      refine ev_call (e_X12_blocks L0 d (by omega) hx) 3 (pc' := 56) (L' := [some (.inr (.inr 187)), some (.inl p1), some (.inl p2), some (.inl p3), some (.inl l4_3)]) (S' := [.inl l4_3]) (fun _ _ => rfl) ?_
      rcases ite_or hb with ⟨hc, hb⟩ | ⟨hc, hb⟩
      · refine ev_ift hc 1 (pc' := 59) (L' := [some (.inr (.inr 187)), some (.inl p1), some (.inl p2), some (.inl p3), some (.inl l4_3)]) (S' := []) (σ' := (SH L0, D4)) (fun _ _ => rfl) ?_
        obtain ⟨x6, hx, hb⟩ := bnd hb
        refine ev_call (e_X12_funOf L0 d (by omega) hx) 3 (pc' := 65) (L' := [some (.inr (.inr 187)), some (.inl p1), some (.inl p2), some (.inl p3), some (.inl l4_3)]) (S' := []) (fun _ _ => rfl) ?_
        obtain ⟨D10, hv, hb⟩ := bnd hb
        have hJ : EvF mtab d k_X12_tries 104 [some (.inr (.inr 187)), some (.inl p1), some (.inl p2), some (.inl p3), some (.inl l4_3)] [] (SH L0, D10) (none, (SH L0, t0)) := by
          cases hb
          exact ev_go 2 (pc' := 50) (L' := [some (.inr (.inr 187)), some (.inl p1), some (.inl p2), some (.inl p3), some (.inl (w32 (l4_3 + 1)))]) (S' := []) (σ' := (SH L0, D10)) (fun _ _ => rfl) hK0
        clear hb
        rcases ite_or hv with ⟨hc, hv⟩ | ⟨hc, hv⟩
        · refine ev_ift hc 2 (pc' := 69) (L' := [some (.inr (.inr 187)), some (.inl p1), some (.inl p2), some (.inl p3), some (.inl l4_3)]) (S' := []) (σ' := (SH L0, D4)) (fun _ _ => rfl) ?_
          obtain ⟨x7, hx, hv⟩ := bnd hv
          refine ev_call (e_X12_isIn__187_224 L0 d (by omega) hx) 7 (pc' := 81) (L' := [some (.inr (.inr 187)), some (.inl p1), some (.inl p2), some (.inl p3), some (.inl l4_3)]) (S' := []) (fun _ _ => rfl) ?_
          rcases ite_or hv with ⟨hc, hv⟩ | ⟨hc, hv⟩
          · refine ev_ift hc 1 (pc' := 87) (L' := [some (.inr (.inr 187)), some (.inl p1), some (.inl p2), some (.inl p3), some (.inl l4_3)]) (S' := []) (σ' := (SH L0, D4)) (fun _ _ => rfl) ?_
            obtain ⟨D8, hx, hv⟩ := bnd hv
            refine ev_bind hx 5 (pc' := 95) (L' := fun D8 => [some (.inr (.inr 187)), some (.inl p1), some (.inl p2), some (.inl p3), some (.inl l4_3)]) (S' := fun D8 => []) (σ' := fun D8 => (SH L0, D8)) (fun _ _ => rfl) ?_
            obtain ⟨D9, hx, hv⟩ := bnd hv
            refine ev_call (ih L0 d (by omega) hx) 7 (pc' := 104) (L' := [some (.inr (.inr 187)), some (.inl p1), some (.inl p2), some (.inl p3), some (.inl l4_3)]) (S' := []) (fun _ _ => rfl) ?_
            have he0 := Option.some.inj hv
            subst he0
            exact hJ
          · refine ev_iff hc 1 (pc' := 84) (L' := [some (.inr (.inr 187)), some (.inl p1), some (.inl p2), some (.inl p3), some (.inl l4_3)]) (S' := []) (σ' := (SH L0, D4)) (fun _ _ => rfl) ?_
            have he0 := Option.some.inj hv
            subst he0
            exact ev_go 1 (pc' := 104) (L' := [some (.inr (.inr 187)), some (.inl p1), some (.inl p2), some (.inl p3), some (.inl l4_3)]) (S' := []) (σ' := (SH L0, D4)) (fun _ _ => rfl) hJ
        · refine ev_iff hc 2 (pc' := 104) (L' := [some (.inr (.inr 187)), some (.inl p1), some (.inl p2), some (.inl p3), some (.inl l4_3)]) (S' := []) (σ' := (SH L0, D4)) (fun _ _ => rfl) ?_
          have he0 := Option.some.inj hv
          subst he0
          exact hJ
      · refine ev_iff hc 1 (pc' := 110) (L' := [some (.inr (.inr 187)), some (.inl p1), some (.inl p2), some (.inl p3), some (.inl l4_3)]) (S' := []) (σ' := (SH L0, D4)) (fun _ _ => rfl) ?_
        cases hb
        exact hK0 (some (.inl l4_3))
theorem e_X12_tries (L0 d : Nat) (hd : 13 ≤ d) {p1 p2 p3 : Int} {D : DT} {t0 : DT} (h : m_X12_tries 9 p1 p2 p3 D = some t0) : Ret mtab d 267 [.inr (.inr 187), .inl p1, .inl p2, .inl p3] (SH L0, D) (none, (SH L0, t0)) := e_X12_tries_n 9 L0 d (by omega) h
set_option maxRecDepth 100000 in
set_option maxHeartbeats 4000000 in
theorem e_X12_least (L0 d : Nat) (hd : 14 ≤ d) {p1 : Int} {D : DT} {t0 : (Int × DT)} (h : m_X12_least p1 D = some t0) : Ret mtab d 268 [.inr (.inr 187), .inl p1] (SH L0, D) (some (.inl t0.1), (SH L0, t0.2)) := by
  obtain ⟨d, rfl⟩ : ∃ e, d = e + 1 := ⟨d - 1, by omega⟩
  refine Ret.of (code := k_X12_least) (ml := 3) rfl ?_
  show EvF mtab d k_X12_least 0 [some (.inr (.inr 187)), some (.inl p1), none] [] (SH L0, D) (some (.inl t0.1), (SH L0, t0.2))
  unfold m_X12_least at h
  obtain ⟨x1, hx, h⟩ := bnd h
  refine ev_call (e_X12_isFun L0 d (by omega) hx) 5 (pc' := 7) (L' := [some (.inr (.inr 187)), some (.inl p1), none]) (S' := [.inl 1, .inr (.inr 187)]) (fun _ _ => rfl) ?_
  obtain ⟨⟨x2, D3⟩, hx, h⟩ := bnd h
  refine ev_call (e_X12_asks L0 d (by omega) hx) 1 (pc' := 10) (L' := [some (.inr (.inr 187)), some (.inl p1), none]) (S' := []) (fun _ _ => rfl) ?_
  rcases ite_or h with ⟨hc, h⟩ | ⟨hc, h⟩
  · refine ev_ift hc 1 (pc' := 13) (L' := [some (.inr (.inr 187)), some (.inl p1), none]) (S' := []) (σ' := (SH L0, D3)) (fun _ _ => rfl) ?_
    cases h
    exact ev_ret 2 (fun _ _ => rfl)
  · refine ev_iff hc 1 (pc' := 15) (L' := [some (.inr (.inr 187)), some (.inl p1), none]) (S' := []) (σ' := (SH L0, D3)) (fun _ _ => rfl) ?_
    obtain ⟨x4, hx, h⟩ := bnd h
    refine ev_call (e_X12_blocksOf L0 d (by omega) hx) 3 (pc' := 20) (L' := [some (.inr (.inr 187)), some (.inl p1), none]) (S' := []) (fun _ _ => rfl) ?_
    rcases ite_or h with ⟨hc, h⟩ | ⟨hc, h⟩
    · refine ev_ift hc 4 (pc' := 27) (L' := [some (.inr (.inr 187)), some (.inl p1), some (.inl x4)]) (S' := []) (σ' := (SH L0, D3)) (fun _ _ => rfl) ?_
      obtain ⟨⟨x5, D6⟩, hx, h⟩ := bnd h
      refine ev_call (e_X12_refuse L0 d (by omega) hx) 3 (pc' := 32) (L' := [some (.inr (.inr 187)), some (.inl p1), some (.inl x4)]) (S' := []) (fun _ _ => rfl) ?_
      cases h
      exact ev_ret 1 (fun _ _ => rfl)
    · refine ev_iff hc 4 (pc' := 33) (L' := [some (.inr (.inr 187)), some (.inl p1), some (.inl x4)]) (S' := []) (σ' := (SH L0, D3)) (fun _ _ => rfl) ?_
      obtain ⟨x7, hx, h⟩ := bnd h
      refine ev_call (e_X12_entryOf L0 d (by omega) hx) 9 (pc' := 48) (L' := [some (.inr (.inr 187)), some (.inl p1), some (.inl x4)]) (S' := [.inl 0, .inr (.inr 224)]) (fun _ _ => rfl) ?_
      obtain ⟨D8, hx, h⟩ := bnd h
      refine ev_bind hx 1 (pc' := 49) (L' := fun D8 => [some (.inr (.inr 187)), some (.inl p1), some (.inl x4)]) (S' := fun D8 => []) (σ' := fun D8 => (SH L0, D8)) (fun _ _ => rfl) ?_
      obtain ⟨D9, hx, h⟩ := bnd h
      refine ev_call (e_X12_tries L0 d (by omega) hx) 5 (pc' := 56) (L' := [some (.inr (.inr 187)), some (.inl p1), some (.inl x4)]) (S' := []) (fun _ _ => rfl) ?_
      cases h
      exact ev_ret 3 (fun _ _ => rfl)
set_option maxRecDepth 100000 in
set_option maxHeartbeats 4000000 in
theorem e_X12_uses (L0 d : Nat) (hd : 1 ≤ d) {p1 : Int} {D : DT} {t0 : DT} (h : m_X12_uses p1 D = some t0) : Ret mtab d 269 [.inr (.inr 187), .inl p1] (SH L0, D) (none, (SH L0, t0)) := by
  obtain ⟨d, rfl⟩ : ∃ e, d = e + 1 := ⟨d - 1, by omega⟩
  refine Ret.of (code := k_X12_uses) (ml := 4) rfl ?_
  show EvF mtab d k_X12_uses 0 [some (.inr (.inr 187)), some (.inl p1), none, none] [] (SH L0, D) (none, (SH L0, t0))
  unfold m_X12_uses at h
  obtain ⟨r, hr, h⟩ := bnd h
  have hX : (fun (r : Int) => EvF mtab d k_X12_uses 26 [some (.inr (.inr 187)), some (.inl p1), some (.inl r), none] [] (SH L0, D) (none, (SH L0, t0))) r := by
    obtain ⟨l2_3, hre⟩ : ∃ q, q = r := ⟨r, rfl⟩
    subst hre
    show EvF mtab d k_X12_uses 26 [some (.inr (.inr 187)), some (.inl p1), some (.inl l2_3), none] [] (SH L0, D) (none, (SH L0, t0))
    obtain ⟨⟨l2_9, D10⟩, hv, h⟩ := bnd h
    have hJ : EvF mtab d k_X12_uses 103 [some (.inr (.inr 187)), some (.inl p1), some (.inl l2_9), none] [] (SH L0, D10) (none, (SH L0, t0)) := by
      obtain ⟨r, hr, h⟩ := bnd h
      have hX : (fun (r : DT) => ∀ (o15 : Option (Sum Int Nat)), EvF mtab d k_X12_uses 129 [some (.inr (.inr 187)), some (.inl p1), some (.inl l2_9), dv o15] [] (SH L0, r) (none, (SH L0, t0))) r := by
        obtain ⟨D16, hre⟩ : ∃ q, q = r := ⟨r, rfl⟩
        subst hre
        intro o15
        show EvF mtab d k_X12_uses 129 [some (.inr (.inr 187)), some (.inl p1), some (.inl l2_9), dv o15] [] (SH L0, D16) (none, (SH L0, t0))
        obtain ⟨D17, hx, h⟩ := bnd h
        refine ev_bind hx 5 (pc' := 136) (L' := fun D17 => [some (.inr (.inr 187)), some (.inl p1), some (.inl l2_9), dv o15]) (S' := fun D17 => []) (σ' := fun D17 => (SH L0, D17)) (fun _ _ => rfl) ?_
        cases h
        exact ev_ret 1 (fun _ _ => rfl)
      clear h
      refine ev_go 2 (pc' := 105) (L' := [some (.inr (.inr 187)), some (.inl p1), some (.inl l2_9), some (.inl l2_9)]) (S' := []) (σ' := (SH L0, D10)) (fun _ _ => rfl) ?_
      refine loop_ind (P := fun s => EvF mtab d k_X12_uses 105 [some (.inr (.inr 187)), some (.inl p1), some (.inl l2_9), some (.inl s.1)] [] (SH L0, s.2) (none, (SH L0, t0))) (X := fun r => ∀ (o15 : Option (Sum Int Nat)), EvF mtab d k_X12_uses 129 [some (.inr (.inr 187)), some (.inl p1), some (.inl l2_9), dv o15] [] (SH L0, r) (none, (SH L0, t0))) hr hX ?_
      clear hr hX
      intro s t hb hK0
      obtain ⟨l3_11, D12⟩ := s
      show EvF mtab d k_X12_uses 105 [some (.inr (.inr 187)), some (.inl p1), some (.inl l2_9), some (.inl l3_11)] [] (SH L0, D12) (none, (SH L0, t0))
      unfold b_X12_uses_105 at hb
      rcases ite_or hb with ⟨hc, hb⟩ | ⟨hc, hb⟩
      · refine ev_ift hc 2 (pc' := 109) (L' := [some (.inr (.inr 187)), some (.inl p1), some (.inl l2_9), some (.inl l3_11)]) (S' := []) (σ' := (SH L0, D12)) (fun _ _ => rfl) ?_
        obtain ⟨x13, hx, hb⟩ := bnd hb
        refine ev_bind hx 9 (pc' := 122) (L' := fun x13 => [some (.inr (.inr 187)), some (.inl p1), some (.inl l2_9), some (.inl l3_11)]) (S' := fun x13 => [.inl x13, .inl l3_11, .inr (.inr 227)]) (σ' := fun x13 => (SH L0, D12)) (fun _ _ => rfl) ?_
        obtain ⟨D14, hx, hb⟩ := bnd hb
        refine ev_bind hx 1 (pc' := 123) (L' := fun D14 => [some (.inr (.inr 187)), some (.inl p1), some (.inl l2_9), some (.inl l3_11)]) (S' := fun D14 => []) (σ' := fun D14 => (SH L0, D14)) (fun _ _ => rfl) ?_
        cases hb
        exact ev_go 2 (pc' := 105) (L' := [some (.inr (.inr 187)), some (.inl p1), some (.inl l2_9), some (.inl (w32 (l3_11 + (-1))))]) (S' := []) (σ' := (SH L0, D14)) (fun _ _ => rfl) hK0
      · refine ev_iff hc 2 (pc' := 129) (L' := [some (.inr (.inr 187)), some (.inl p1), some (.inl l2_9), some (.inl l3_11)]) (S' := []) (σ' := (SH L0, D12)) (fun _ _ => rfl) ?_
        cases hb
        exact hK0 (some (.inl l3_11))
    clear h
    rcases ite_or hv with ⟨hc, hv⟩ | ⟨hc, hv⟩
    · refine ev_ift hc 4 (pc' := 34) (L' := [some (.inr (.inr 187)), some (.inl p1), some (.inl l2_3), none]) (S' := []) (σ' := (SH L0, D)) (fun _ _ => rfl) ?_
      obtain ⟨x4, hx, hv⟩ := bnd hv
      refine ev_bind hx 13 (pc' := 55) (L' := fun x4 => [some (.inr (.inr 187)), some (.inl p1), some (.inl l2_3), none]) (S' := fun x4 => [.inl x4, .inl ((dput D 187 60 (w32 ((D 187 60) + 1))) 187 62), .inr (.inr 187)]) (σ' := fun x4 => (SH L0, dput D 187 60 (w32 ((D 187 60) + 1)))) (fun _ _ => rfl) ?_
      obtain ⟨t5, hv, hv⟩ := bnd hv
      have hJ : EvF mtab d k_X12_uses 63 [some (.inr (.inr 187)), some (.inl p1), some (.inl l2_3), none] [.inl t5, .inl ((dput D 187 60 (w32 ((D 187 60) + 1))) 187 62), .inr (.inr 187)] (SH L0, dput D 187 60 (w32 ((D 187 60) + 1))) (none, (SH L0, t0)) := by
        obtain ⟨x6, hx, hv⟩ := bnd hv
        obtain ⟨D7, hy, hv⟩ := bnd hv
        refine ev_bind2 (Y := fun x6 => awr (dput (dput D 187 60 (w32 ((D 187 60) + 1))) 187 62 (w32 (((dput D 187 60 (w32 ((D 187 60) + 1))) 187 62) + t5))) 223 512 p1 x6) hx hy 7 (pc' := 74) (L' := fun x6 D7 => [some (.inr (.inr 187)), some (.inl p1), some (.inl l2_3), none]) (S' := fun x6 D7 => []) (σ' := fun x6 D7 => (SH L0, D7)) (fun _ _ => rfl) ?_
        obtain ⟨x8, hx, hv⟩ := bnd hv
        refine ev_bind hx 6 (pc' := 84) (L' := fun x8 => [some (.inr (.inr 187)), some (.inl p1), some (.inl l2_3), none]) (S' := fun x8 => [.inl x8, .inl (D7 187 59)]) (σ' := fun x8 => (SH L0, D7)) (fun _ _ => rfl) ?_
        rcases ite_or hv with ⟨hc, hv⟩ | ⟨hc, hv⟩
        · refine ev_ift hc 1 (pc' := 87) (L' := [some (.inr (.inr 187)), some (.inl p1), some (.inl l2_3), none]) (S' := []) (σ' := (SH L0, D7)) (fun _ _ => rfl) ?_
          have he0 := Option.some.inj hv
          obtain ⟨ha0, he1⟩ := Prod.mk.inj he0
          clear he0
          subst ha0
          subst he1
          exact ev_go 7 (pc' := 103) (L' := [some (.inr (.inr 187)), some (.inl p1), some (.inl l2_3), none]) (S' := []) (σ' := (SH L0, dput D7 187 59 (w32 ((D7 187 59) + 1)))) (fun _ _ => rfl) hJ
        · refine ev_iff hc 1 (pc' := 100) (L' := [some (.inr (.inr 187)), some (.inl p1), some (.inl l2_3), none]) (S' := []) (σ' := (SH L0, D7)) (fun _ _ => rfl) ?_
          have he0 := Option.some.inj hv
          obtain ⟨ha0, he1⟩ := Prod.mk.inj he0
          clear he0
          subst ha0
          subst he1
          exact ev_go 1 (pc' := 103) (L' := [some (.inr (.inr 187)), some (.inl p1), some (.inl (w32 (l2_3 + (-1)))), none]) (S' := []) (σ' := (SH L0, D7)) (fun _ _ => rfl) hJ
      clear hv
      rcases ite_or hv with ⟨hc, hv⟩ | ⟨hc, hv⟩
      · refine ev_ift hc 1 (pc' := 62) (L' := [some (.inr (.inr 187)), some (.inl p1), some (.inl l2_3), none]) (S' := [.inl ((dput D 187 60 (w32 ((D 187 60) + 1))) 187 62), .inr (.inr 187)]) (σ' := (SH L0, dput D 187 60 (w32 ((D 187 60) + 1)))) (fun _ _ => rfl) ?_
        have he0 := Option.some.inj hv
        subst he0
        exact ev_go 1 (pc' := 63) (L' := [some (.inr (.inr 187)), some (.inl p1), some (.inl l2_3), none]) (S' := [.inl 1, .inl ((dput D 187 60 (w32 ((D 187 60) + 1))) 187 62), .inr (.inr 187)]) (σ' := (SH L0, dput D 187 60 (w32 ((D 187 60) + 1)))) (fun _ _ => rfl) hJ
      · refine ev_iff hc 1 (pc' := 58) (L' := [some (.inr (.inr 187)), some (.inl p1), some (.inl l2_3), none]) (S' := [.inl ((dput D 187 60 (w32 ((D 187 60) + 1))) 187 62), .inr (.inr 187)]) (σ' := (SH L0, dput D 187 60 (w32 ((D 187 60) + 1)))) (fun _ _ => rfl) ?_
        have he0 := Option.some.inj hv
        subst he0
        exact ev_go 2 (pc' := 63) (L' := [some (.inr (.inr 187)), some (.inl p1), some (.inl l2_3), none]) (S' := [.inl 0, .inl ((dput D 187 60 (w32 ((D 187 60) + 1))) 187 62), .inr (.inr 187)]) (σ' := (SH L0, dput D 187 60 (w32 ((D 187 60) + 1)))) (fun _ _ => rfl) hJ
    · refine ev_iff hc 4 (pc' := 103) (L' := [some (.inr (.inr 187)), some (.inl p1), some (.inl l2_3), none]) (S' := []) (σ' := (SH L0, D)) (fun _ _ => rfl) ?_
      have he0 := Option.some.inj hv
      obtain ⟨ha0, he1⟩ := Prod.mk.inj he0
      clear he0
      subst ha0
      subst he1
      exact hJ
  clear h
  refine ev_go 2 (pc' := 2) (L' := [some (.inr (.inr 187)), some (.inl p1), some (.inl 0), none]) (S' := []) (σ' := (SH L0, D)) (fun _ _ => rfl) ?_
  refine loop_ind (P := fun s => EvF mtab d k_X12_uses 2 [some (.inr (.inr 187)), some (.inl p1), some (.inl s), none] [] (SH L0, D) (none, (SH L0, t0))) (X := fun r => EvF mtab d k_X12_uses 26 [some (.inr (.inr 187)), some (.inl p1), some (.inl r), none] [] (SH L0, D) (none, (SH L0, t0))) hr hX ?_
  clear hr hX
  intro s t hb hK0
  obtain ⟨l2_1, hre⟩ : ∃ q, q = s := ⟨s, rfl⟩
  subst hre
  show EvF mtab d k_X12_uses 2 [some (.inr (.inr 187)), some (.inl p1), some (.inl l2_1), none] [] (SH L0, D) (none, (SH L0, t0))
  unfold b_X12_uses_2 at hb
  rcases ite_or hb with ⟨hc, hb⟩ | ⟨hc, hb⟩
  · refine ev_ift hc 4 (pc' := 10) (L' := [some (.inr (.inr 187)), some (.inl p1), some (.inl l2_1), none]) (S' := []) (σ' := (SH L0, D)) (fun _ _ => rfl) ?_
    obtain ⟨x2, hx, hb⟩ := bnd hb
    refine ev_bind hx 4 (pc' := 16) (L' := fun x2 => [some (.inr (.inr 187)), some (.inl p1), some (.inl l2_1), none]) (S' := fun x2 => [.inl x2]) (σ' := fun x2 => (SH L0, D)) (fun _ _ => rfl) ?_
    rcases ite_or hb with ⟨hc, hb⟩ | ⟨hc, hb⟩
    · refine ev_ift hc 2 (pc' := 26) (L' := [some (.inr (.inr 187)), some (.inl p1), some (.inl l2_1), none]) (S' := []) (σ' := (SH L0, D)) (fun _ _ => rfl) ?_
      cases hb
      exact hK0
    · refine ev_iff hc 2 (pc' := 20) (L' := [some (.inr (.inr 187)), some (.inl p1), some (.inl l2_1), none]) (S' := []) (σ' := (SH L0, D)) (fun _ _ => rfl) ?_
      cases hb
      exact ev_go 2 (pc' := 2) (L' := [some (.inr (.inr 187)), some (.inl p1), some (.inl (w32 (l2_1 + 1))), none]) (S' := []) (σ' := (SH L0, D)) (fun _ _ => rfl) hK0
  · refine ev_iff hc 4 (pc' := 26) (L' := [some (.inr (.inr 187)), some (.inl p1), some (.inl l2_1), none]) (S' := []) (σ' := (SH L0, D)) (fun _ _ => rfl) ?_
    cases hb
    exact hK0
set_option maxRecDepth 100000 in
set_option maxHeartbeats 4000000 in
theorem e_X12_enters (L0 d : Nat) (hd : 2 ≤ d) {p1 : Int} {D : DT} {t0 : DT} (h : m_X12_enters p1 D = some t0) : Ret mtab d 270 [.inr (.inr 187), .inl p1] (SH L0, D) (none, (SH L0, t0)) := by
  obtain ⟨d, rfl⟩ : ∃ e, d = e + 1 := ⟨d - 1, by omega⟩
  refine Ret.of (code := k_X12_enters) (ml := 3) rfl ?_
  show EvF mtab d k_X12_enters 0 [some (.inr (.inr 187)), some (.inl p1), none] [] (SH L0, D) (none, (SH L0, t0))
  unfold m_X12_enters at h
  obtain ⟨D1, hx, h⟩ := bnd h
  refine ev_bind hx 6 (pc' := 10) (L' := fun D1 => [some (.inr (.inr 187)), some (.inl p1), none]) (S' := fun D1 => []) (σ' := fun D1 => (SH L0, D1)) (fun _ _ => rfl) ?_
  obtain ⟨D2, hx, h⟩ := bnd h
  refine ev_bind hx 6 (pc' := 20) (L' := fun D2 => [some (.inr (.inr 187)), some (.inl p1), none]) (S' := fun D2 => []) (σ' := fun D2 => (SH L0, D2)) (fun _ _ => rfl) ?_
  obtain ⟨x3, hx, h⟩ := bnd h
  refine ev_call (e_X12_firstPage L0 d (by omega) hx) 3 (pc' := 25) (L' := [some (.inr (.inr 187)), some (.inl p1), none]) (S' := []) (fun _ _ => rfl) ?_
  obtain ⟨r, hr, h⟩ := bnd h
  have hX : (fun (r : DT) => ∀ (o8 : Option (Sum Int Nat)), EvF mtab d k_X12_enters 46 [some (.inr (.inr 187)), some (.inl p1), dv o8] [] (SH L0, r) (none, (SH L0, t0))) r := by
    obtain ⟨D9, hre⟩ : ∃ q, q = r := ⟨r, rfl⟩
    subst hre
    intro o8
    show EvF mtab d k_X12_enters 46 [some (.inr (.inr 187)), some (.inl p1), dv o8] [] (SH L0, D9) (none, (SH L0, t0))
    cases h
    exact ev_ret 1 (fun _ _ => rfl)
  clear h
  refine ev_go 1 (pc' := 26) (L' := [some (.inr (.inr 187)), some (.inl p1), some (.inl x3)]) (S' := []) (σ' := (SH L0, D2)) (fun _ _ => rfl) ?_
  refine loop_ind (P := fun s => EvF mtab d k_X12_enters 26 [some (.inr (.inr 187)), some (.inl p1), some (.inl s.1)] [] (SH L0, s.2) (none, (SH L0, t0))) (X := fun r => ∀ (o8 : Option (Sum Int Nat)), EvF mtab d k_X12_enters 46 [some (.inr (.inr 187)), some (.inl p1), dv o8] [] (SH L0, r) (none, (SH L0, t0))) hr hX ?_
  clear hr hX
  intro s t hb hK0
  obtain ⟨l2_4, D5⟩ := s
  show EvF mtab d k_X12_enters 26 [some (.inr (.inr 187)), some (.inl p1), some (.inl l2_4)] [] (SH L0, D5) (none, (SH L0, t0))
  unfold b_X12_enters_26 at hb
  obtain ⟨x6, hx, hb⟩ := bnd hb
  refine ev_call (e_X12_lastPage L0 d (by omega) hx) 4 (pc' := 32) (L' := [some (.inr (.inr 187)), some (.inl p1), some (.inl l2_4)]) (S' := [.inl l2_4]) (fun _ _ => rfl) ?_
  rcases ite_or hb with ⟨hc, hb⟩ | ⟨hc, hb⟩
  · refine ev_ift hc 1 (pc' := 46) (L' := [some (.inr (.inr 187)), some (.inl p1), some (.inl l2_4)]) (S' := []) (σ' := (SH L0, D5)) (fun _ _ => rfl) ?_
    cases hb
    exact hK0 (some (.inl l2_4))
  · refine ev_iff hc 1 (pc' := 35) (L' := [some (.inr (.inr 187)), some (.inl p1), some (.inl l2_4)]) (S' := []) (σ' := (SH L0, D5)) (fun _ _ => rfl) ?_
    obtain ⟨D7, hx, hb⟩ := bnd hb
    refine ev_call (e_X12_uses L0 d (by omega) hx) 3 (pc' := 40) (L' := [some (.inr (.inr 187)), some (.inl p1), some (.inl l2_4)]) (S' := []) (fun _ _ => rfl) ?_
    cases hb
    exact ev_go 2 (pc' := 26) (L' := [some (.inr (.inr 187)), some (.inl p1), some (.inl (w32 (l2_4 + 1)))]) (S' := []) (σ' := (SH L0, D7)) (fun _ _ => rfl) hK0
set_option maxRecDepth 100000 in
set_option maxHeartbeats 4000000 in
theorem e_X12_drawn (L0 d : Nat) (hd : 2 ≤ d) {p1 : Int} {D : DT} {t0 : (Int × DT)} (h : m_X12_drawn p1 D = some t0) : Ret mtab d 271 [.inr (.inr 187), .inl p1] (SH L0, D) (some (.inl t0.1), (SH L0, t0.2)) := by
  obtain ⟨d, rfl⟩ : ∃ e, d = e + 1 := ⟨d - 1, by omega⟩
  refine Ret.of (code := k_X12_drawn) (ml := 4) rfl ?_
  show EvF mtab d k_X12_drawn 0 [some (.inr (.inr 187)), some (.inl p1), none, none] [] (SH L0, D) (some (.inl t0.1), (SH L0, t0.2))
  unfold m_X12_drawn at h
  obtain ⟨x1, hx, h⟩ := bnd h
  refine ev_call (e_X12_firstArc L0 d (by omega) hx) 5 (pc' := 9) (L' := [some (.inr (.inr 187)), some (.inl p1), none, none]) (S' := [.inr (.inr 189)]) (fun _ _ => rfl) ?_
  obtain ⟨x2, hx, h⟩ := bnd h
  refine ev_bind hx 1 (pc' := 10) (L' := fun x2 => [some (.inr (.inr 187)), some (.inl p1), none, none]) (S' := fun x2 => [.inl x2]) (σ' := fun x2 => (SH L0, D)) (fun _ _ => rfl) ?_
  obtain ⟨x3, hx, h⟩ := bnd h
  refine ev_call (e_X12_whole L0 d (by omega) hx) 1 (pc' := 13) (L' := [some (.inr (.inr 187)), some (.inl p1), none, none]) (S' := []) (fun _ _ => rfl) ?_
  obtain ⟨x4, hx, h⟩ := bnd h
  refine ev_call (e_X12_firstArc L0 d (by omega) hx) 7 (pc' := 24) (L' := [some (.inr (.inr 187)), some (.inl p1), some (.inl x3), none]) (S' := [.inr (.inr 189), .inl x3]) (fun _ _ => rfl) ?_
  obtain ⟨x5, hx, h⟩ := bnd h
  refine ev_bind hx 3 (pc' := 27) (L' := fun x5 => [some (.inr (.inr 187)), some (.inl p1), some (.inl x3), none]) (S' := fun x5 => [.inl x5, .inl x3]) (σ' := fun x5 => (SH L0, D)) (fun _ _ => rfl) ?_
  obtain ⟨x6, hx, h⟩ := bnd h
  refine ev_call (e_X12_whole L0 d (by omega) hx) 1 (pc' := 30) (L' := [some (.inr (.inr 187)), some (.inl p1), some (.inl x3), none]) (S' := [.inl x3]) (fun _ _ => rfl) ?_
  rcases ite_or h with ⟨hc, h⟩ | ⟨hc, h⟩
  · refine ev_ift hc 4 (pc' := 36) (L' := [some (.inr (.inr 187)), some (.inl p1), some (.inl x3), some (.inl (w32 (x3 + x6)))]) (S' := []) (σ' := (SH L0, D)) (fun _ _ => rfl) ?_
    obtain ⟨x7, hx, h⟩ := bnd h
    refine ev_call (e_X12_firstArc L0 d (by omega) hx) 3 (pc' := 41) (L' := [some (.inr (.inr 187)), some (.inl p1), some (.inl x3), some (.inl (w32 (x3 + x6)))]) (S' := []) (fun _ _ => rfl) ?_
    cases h
    exact ev_ret 1 (fun _ _ => rfl)
  · refine ev_iff hc 4 (pc' := 42) (L' := [some (.inr (.inr 187)), some (.inl p1), some (.inl x3), some (.inl (w32 (x3 + x6)))]) (S' := []) (σ' := (SH L0, D)) (fun _ _ => rfl) ?_
    obtain ⟨x8, hx, h⟩ := bnd h
    refine ev_bind hx 9 (pc' := 57) (L' := fun x8 => [some (.inr (.inr 187)), some (.inl p1), some (.inl x3), some (.inl (w32 (x3 + x6)))]) (S' := fun x8 => [.inl x8, .inr (.inr 187)]) (σ' := fun x8 => (SH L0, D)) (fun _ _ => rfl) ?_
    obtain ⟨x9, hx, h⟩ := bnd h
    refine ev_bind hx 5 (pc' := 66) (L' := fun x9 => [some (.inr (.inr 187)), some (.inl p1), some (.inl x3), some (.inl (w32 (x3 + x6)))]) (S' := fun x9 => [.inl x9]) (σ' := fun x9 => (SH L0, dput D 187 63 x8)) (fun _ _ => rfl) ?_
    rcases ite_or h with ⟨hc, h⟩ | ⟨hc, h⟩
    · refine ev_ift hc 2 (pc' := 70) (L' := [some (.inr (.inr 187)), some (.inl p1), some (.inl x3), some (.inl (w32 (x3 + x6)))]) (S' := []) (σ' := (SH L0, dput D 187 63 x8)) (fun _ _ => rfl) ?_
      obtain ⟨x10, hx, h⟩ := bnd h
      refine ev_call (e_X12_firstArc L0 d (by omega) hx) 3 (pc' := 75) (L' := [some (.inr (.inr 187)), some (.inl p1), some (.inl x3), some (.inl (w32 (x3 + x6)))]) (S' := []) (fun _ _ => rfl) ?_
      cases h
      exact ev_ret 2 (fun _ _ => rfl)
    · refine ev_iff hc 2 (pc' := 78) (L' := [some (.inr (.inr 187)), some (.inl p1), some (.inl x3), some (.inl (w32 (x3 + x6)))]) (S' := []) (σ' := (SH L0, dput D 187 63 x8)) (fun _ _ => rfl) ?_
      obtain ⟨x11, hx, h⟩ := bnd h
      refine ev_call (e_X12_firstArc L0 d (by omega) hx) 3 (pc' := 83) (L' := [some (.inr (.inr 187)), some (.inl p1), some (.inl x3), some (.inl (w32 (x3 + x6)))]) (S' := []) (fun _ _ => rfl) ?_
      cases h
      exact ev_ret 3 (fun _ _ => rfl)
set_option maxRecDepth 100000 in
set_option maxHeartbeats 4000000 in
theorem e_X12_goesOn (L0 d : Nat) (hd : 3 ≤ d) {p1 : Int} {D : DT} {t0 : (Int × DT)} (h : m_X12_goesOn p1 D = some t0) : Ret mtab d 272 [.inr (.inr 187), .inl p1] (SH L0, D) (some (.inl t0.1), (SH L0, t0.2)) := by
  obtain ⟨d, rfl⟩ : ∃ e, d = e + 1 := ⟨d - 1, by omega⟩
  refine Ret.of (code := k_X12_goesOn) (ml := 3) rfl ?_
  show EvF mtab d k_X12_goesOn 0 [some (.inr (.inr 187)), some (.inl p1), none] [] (SH L0, D) (some (.inl t0.1), (SH L0, t0.2))
  unfold m_X12_goesOn at h
  obtain ⟨x1, hx, h⟩ := bnd h
  refine ev_call (e_X12_endOf L0 d (by omega) hx) 3 (pc' := 5) (L' := [some (.inr (.inr 187)), some (.inl p1), none]) (S' := []) (fun _ _ => rfl) ?_
  rcases ite_or h with ⟨hc, h⟩ | ⟨hc, h⟩
  · refine ev_ift hc 1 (pc' := 8) (L' := [some (.inr (.inr 187)), some (.inl p1), none]) (S' := []) (σ' := (SH L0, D)) (fun _ _ => rfl) ?_
    cases h
    exact ev_ret 2 (fun _ _ => rfl)
  · refine ev_iff hc 1 (pc' := 10) (L' := [some (.inr (.inr 187)), some (.inl p1), none]) (S' := []) (σ' := (SH L0, D)) (fun _ _ => rfl) ?_
    obtain ⟨x2, hx, h⟩ := bnd h
    refine ev_call (e_X12_endOf L0 d (by omega) hx) 3 (pc' := 15) (L' := [some (.inr (.inr 187)), some (.inl p1), none]) (S' := []) (fun _ _ => rfl) ?_
    obtain ⟨⟨t6, D7⟩, hv, h⟩ := bnd h
    have hJ : EvF mtab d k_X12_goesOn 32 [some (.inr (.inr 187)), some (.inl p1), none] [.inl t6] (SH L0, D7) (some (.inl t0.1), (SH L0, t0.2)) := by
      obtain ⟨x8, hx, h⟩ := bnd h
      refine ev_call (e_X12_falls L0 d (by omega) hx) 7 (pc' := 43) (L' := [some (.inr (.inr 187)), some (.inl p1), some (.inl t6)]) (S' := [.inl (D7 187 61), .inr (.inr 187)]) (fun _ _ => rfl) ?_
      obtain ⟨t9, hv, h⟩ := bnd h
      have hJ : EvF mtab d k_X12_goesOn 51 [some (.inr (.inr 187)), some (.inl p1), some (.inl t6)] [.inl t9, .inl (D7 187 61), .inr (.inr 187)] (SH L0, D7) (some (.inl t0.1), (SH L0, t0.2)) := by
        obtain ⟨x10, hx, h⟩ := bnd h
        refine ev_bind hx 8 (pc' := 65) (L' := fun x10 => [some (.inr (.inr 187)), some (.inl p1), some (.inl t6)]) (S' := fun x10 => [.inl x10]) (σ' := fun x10 => (SH L0, dput D7 187 61 (w32 ((D7 187 61) + t9)))) (fun _ _ => rfl) ?_
        cases h
        exact ev_ret 1 (fun _ _ => rfl)
      clear h
      rcases ite_or hv with ⟨hc, hv⟩ | ⟨hc, hv⟩
      · refine ev_ift hc 1 (pc' := 50) (L' := [some (.inr (.inr 187)), some (.inl p1), some (.inl t6)]) (S' := [.inl (D7 187 61), .inr (.inr 187)]) (σ' := (SH L0, D7)) (fun _ _ => rfl) ?_
        have he0 := Option.some.inj hv
        subst he0
        exact ev_go 1 (pc' := 51) (L' := [some (.inr (.inr 187)), some (.inl p1), some (.inl t6)]) (S' := [.inl 1, .inl (D7 187 61), .inr (.inr 187)]) (σ' := (SH L0, D7)) (fun _ _ => rfl) hJ
      · refine ev_iff hc 1 (pc' := 46) (L' := [some (.inr (.inr 187)), some (.inl p1), some (.inl t6)]) (S' := [.inl (D7 187 61), .inr (.inr 187)]) (σ' := (SH L0, D7)) (fun _ _ => rfl) ?_
        have he0 := Option.some.inj hv
        subst he0
        exact ev_go 2 (pc' := 51) (L' := [some (.inr (.inr 187)), some (.inl p1), some (.inl t6)]) (S' := [.inl 0, .inl (D7 187 61), .inr (.inr 187)]) (σ' := (SH L0, D7)) (fun _ _ => rfl) hJ
    clear h
    rcases ite_or hv with ⟨hc, hv⟩ | ⟨hc, hv⟩
    · refine ev_ift hc 2 (pc' := 19) (L' := [some (.inr (.inr 187)), some (.inl p1), none]) (S' := []) (σ' := (SH L0, D)) (fun _ _ => rfl) ?_
      obtain ⟨x3, hx, hv⟩ := bnd hv
      refine ev_call (e_X12_firstArc L0 d (by omega) hx) 3 (pc' := 24) (L' := [some (.inr (.inr 187)), some (.inl p1), none]) (S' := []) (fun _ _ => rfl) ?_
      have he0 := Option.some.inj hv
      obtain ⟨ha0, he1⟩ := Prod.mk.inj he0
      clear he0
      subst ha0
      subst he1
      exact ev_go 1 (pc' := 32) (L' := [some (.inr (.inr 187)), some (.inl p1), none]) (S' := [.inl x3]) (σ' := (SH L0, D)) (fun _ _ => rfl) hJ
    · refine ev_iff hc 2 (pc' := 27) (L' := [some (.inr (.inr 187)), some (.inl p1), none]) (S' := []) (σ' := (SH L0, D)) (fun _ _ => rfl) ?_
      obtain ⟨⟨x4, D5⟩, hx, hv⟩ := bnd hv
      refine ev_call (e_X12_drawn L0 d (by omega) hx) 3 (pc' := 32) (L' := [some (.inr (.inr 187)), some (.inl p1), none]) (S' := []) (fun _ _ => rfl) ?_
      have he0 := Option.some.inj hv
      obtain ⟨ha0, he1⟩ := Prod.mk.inj he0
      clear he0
      subst ha0
      subst he1
      exact hJ
set_option maxRecDepth 100000 in
set_option maxHeartbeats 4000000 in
theorem e_X12_nextBlock (L0 d : Nat) (hd : 4 ≤ d) {D : DT} {t0 : (Int × DT)} (h : m_X12_nextBlock  D = some t0) : Ret mtab d 273 [.inr (.inr 187)] (SH L0, D) (some (.inl t0.1), (SH L0, t0.2)) := by
  obtain ⟨d, rfl⟩ : ∃ e, d = e + 1 := ⟨d - 1, by omega⟩
  refine Ret.of (code := k_X12_nextBlock) (ml := 3) rfl ?_
  show EvF mtab d k_X12_nextBlock 0 [some (.inr (.inr 187)), none, none] [] (SH L0, D) (some (.inl t0.1), (SH L0, t0.2))
  unfold m_X12_nextBlock at h
  obtain ⟨r, hr, h⟩ := bnd h
  have hX : (fun (r : ((Int × DT) ⊕ ((Int × DT) ⊕ DT))) => match r with | .inl r => (∀ (o19 : Option (Sum Int Nat)), EvF mtab d k_X12_nextBlock 88 [some (.inr (.inr 187)), dv o19, some (.inl r.1)] [] (SH L0, r.2) (some (.inl t0.1), (SH L0, t0.2))) | .inr r => (match r with | .inl r => (∀ (o23 : Option (Sum Int Nat)), EvF mtab d k_X12_nextBlock 114 [some (.inr (.inr 187)), dv o23, some (.inl r.1)] [] (SH L0, r.2) (some (.inl t0.1), (SH L0, t0.2))) | .inr r => (∀ (o26 : Option (Sum Int Nat)) (o27 : Option (Sum Int Nat)), EvF mtab d k_X12_nextBlock 129 [some (.inr (.inr 187)), dv o26, dv o27] [] (SH L0, r) (some (.inl t0.1), (SH L0, t0.2))))) r := by
    rcases r with r | r
    · skip
      obtain ⟨l2_20, D21⟩ := r
      intro o19
      show EvF mtab d k_X12_nextBlock 88 [some (.inr (.inr 187)), dv o19, some (.inl l2_20)] [] (SH L0, D21) (some (.inl t0.1), (SH L0, t0.2))
      obtain ⟨x22, hx, h⟩ := bnd h
      refine ev_call (e_X12_entryOf L0 d (by omega) hx) 9 (pc' := 103) (L' := [some (.inr (.inr 187)), dv o19, some (.inl l2_20)]) (S' := []) (fun _ _ => rfl) ?_
      cases h
      exact ev_ret 1 (fun _ _ => rfl)
    rcases r with r | r
    · skip
      obtain ⟨l2_24, D25⟩ := r
      intro o23
      show EvF mtab d k_X12_nextBlock 114 [some (.inr (.inr 187)), dv o23, some (.inl l2_24)] [] (SH L0, D25) (some (.inl t0.1), (SH L0, t0.2))
      cases h
      exact ev_ret 2 (fun _ _ => rfl)
    obtain ⟨D28, hre⟩ : ∃ q, q = r := ⟨r, rfl⟩
    subst hre
    intro o26 o27
    show EvF mtab d k_X12_nextBlock 129 [some (.inr (.inr 187)), dv o26, dv o27] [] (SH L0, D28) (some (.inl t0.1), (SH L0, t0.2))
    cases h
    exact ev_ret 2 (fun _ _ => rfl)
  clear h
  refine loop_ind (P := fun s => ∀ (o1 : Option (Sum Int Nat)) (o2 : Option (Sum Int Nat)), EvF mtab d k_X12_nextBlock 0 [some (.inr (.inr 187)), dv o1, dv o2] [] (SH L0, s) (some (.inl t0.1), (SH L0, t0.2))) (X := fun r => match r with | .inl r => (∀ (o19 : Option (Sum Int Nat)), EvF mtab d k_X12_nextBlock 88 [some (.inr (.inr 187)), dv o19, some (.inl r.1)] [] (SH L0, r.2) (some (.inl t0.1), (SH L0, t0.2))) | .inr r => (match r with | .inl r => (∀ (o23 : Option (Sum Int Nat)), EvF mtab d k_X12_nextBlock 114 [some (.inr (.inr 187)), dv o23, some (.inl r.1)] [] (SH L0, r.2) (some (.inl t0.1), (SH L0, t0.2))) | .inr r => (∀ (o26 : Option (Sum Int Nat)) (o27 : Option (Sum Int Nat)), EvF mtab d k_X12_nextBlock 129 [some (.inr (.inr 187)), dv o26, dv o27] [] (SH L0, r) (some (.inl t0.1), (SH L0, t0.2))))) hr hX ?_ none none
  clear hr hX
  intro s t hb hK0
  obtain ⟨D3, hre⟩ : ∃ q, q = s := ⟨s, rfl⟩
  subst hre
  intro o1 o2
  show EvF mtab d k_X12_nextBlock 0 [some (.inr (.inr 187)), dv o1, dv o2] [] (SH L0, D3) (some (.inl t0.1), (SH L0, t0.2))
  unfold b_X12_nextBlock_0 at hb
  rcases ite_or hb with ⟨hc, hb⟩ | ⟨hc, hb⟩
  · refine ev_ift hc 3 (pc' := 129) (L' := [some (.inr (.inr 187)), dv o1, dv o2]) (S' := []) (σ' := (SH L0, D3)) (fun _ _ => rfl) ?_
    cases hb
    exact hK0 o1 o2
  · refine ev_iff hc 3 (pc' := 7) (L' := [some (.inr (.inr 187)), dv o1, dv o2]) (S' := []) (σ' := (SH L0, D3)) (fun _ _ => rfl) ?_
    obtain ⟨x4, hx, hb⟩ := bnd hb
    refine ev_bind hx 5 (pc' := 16) (L' := fun x4 => [some (.inr (.inr 187)), dv o1, dv o2]) (S' := fun x4 => [.inl x4]) (σ' := fun x4 => (SH L0, D3)) (fun _ _ => rfl) ?_
    obtain ⟨r, hr, hb⟩ := bnd hb
    have hX : (fun (r : ((Int × DT) ⊕ DT)) => match r with | .inl r => (EvF mtab d k_X12_nextBlock 88 [some (.inr (.inr 187)), some (.inl x4), some (.inl r.1)] [] (SH L0, r.2) (some (.inl t0.1), (SH L0, t0.2))) | .inr r => (∀ (o15 : Option (Sum Int Nat)), EvF mtab d k_X12_nextBlock 104 [some (.inr (.inr 187)), some (.inl x4), dv o15] [] (SH L0, r) (some (.inl t0.1), (SH L0, t0.2)))) r := by
      rcases r with r | r
      · skip
        obtain ⟨l2_13, D14⟩ := r
        show EvF mtab d k_X12_nextBlock 88 [some (.inr (.inr 187)), some (.inl x4), some (.inl l2_13)] [] (SH L0, D14) (some (.inl t0.1), (SH L0, t0.2))
        cases hb
        exact hK0 (some (.inl x4))
      obtain ⟨D16, hre⟩ : ∃ q, q = r := ⟨r, rfl⟩
      subst hre
      intro o15
      show EvF mtab d k_X12_nextBlock 104 [some (.inr (.inr 187)), some (.inl x4), dv o15] [] (SH L0, D16) (some (.inl t0.1), (SH L0, t0.2))
      obtain ⟨⟨x17, D18⟩, hx, hb⟩ := bnd hb
      refine ev_call (e_X12_goesOn L0 d (by omega) hx) 3 (pc' := 109) (L' := [some (.inr (.inr 187)), some (.inl x4), dv o15]) (S' := []) (fun _ _ => rfl) ?_
      rcases ite_or hb with ⟨hc, hb⟩ | ⟨hc, hb⟩
      · refine ev_ift hc 3 (pc' := 116) (L' := [some (.inr (.inr 187)), some (.inl x4), some (.inl x17)]) (S' := []) (σ' := (SH L0, D18)) (fun _ _ => rfl) ?_
        cases hb
        exact ev_go 7 (pc' := 0) (L' := [some (.inr (.inr 187)), some (.inl x4), some (.inl x17)]) (S' := []) (σ' := (SH L0, dput D18 187 58 (w32 ((D18 187 58) - 1)))) (fun _ _ => rfl) (hK0 (some (.inl x4)) (some (.inl x17)))
      · refine ev_iff hc 3 (pc' := 114) (L' := [some (.inr (.inr 187)), some (.inl x4), some (.inl x17)]) (S' := []) (σ' := (SH L0, D18)) (fun _ _ => rfl) ?_
        cases hb
        exact hK0 (some (.inl x4))
    clear hb
    refine ev_go 1 (pc' := 17) (L' := [some (.inr (.inr 187)), some (.inl x4), dv o2]) (S' := []) (σ' := (SH L0, D3)) (fun _ _ => rfl) ?_
    refine loop_ind (P := fun s => ∀ (o5 : Option (Sum Int Nat)), EvF mtab d k_X12_nextBlock 17 [some (.inr (.inr 187)), some (.inl x4), dv o5] [] (SH L0, s) (some (.inl t0.1), (SH L0, t0.2))) (X := fun r => match r with | .inl r => (EvF mtab d k_X12_nextBlock 88 [some (.inr (.inr 187)), some (.inl x4), some (.inl r.1)] [] (SH L0, r.2) (some (.inl t0.1), (SH L0, t0.2))) | .inr r => (∀ (o15 : Option (Sum Int Nat)), EvF mtab d k_X12_nextBlock 104 [some (.inr (.inr 187)), some (.inl x4), dv o15] [] (SH L0, r) (some (.inl t0.1), (SH L0, t0.2)))) hr hX ?_ o2
    clear hr hX
    intro s t hb hK1
    obtain ⟨D6, hre⟩ : ∃ q, q = s := ⟨s, rfl⟩
    subst hre
    intro o5
    show EvF mtab d k_X12_nextBlock 17 [some (.inr (.inr 187)), some (.inl x4), dv o5] [] (SH L0, D6) (some (.inl t0.1), (SH L0, t0.2))
    unfold b_X12_nextBlock_17 at hb
    obtain ⟨x7, hx, hb⟩ := bnd hb
    refine ev_bind hx 5 (pc' := 26) (L' := fun x7 => [some (.inr (.inr 187)), some (.inl x4), dv o5]) (S' := fun x7 => [.inl x7]) (σ' := fun x7 => (SH L0, D6)) (fun _ _ => rfl) ?_
    obtain ⟨x8, hx, hb⟩ := bnd hb
    refine ev_bind hx 6 (pc' := 36) (L' := fun x8 => [some (.inr (.inr 187)), some (.inl x4), dv o5]) (S' := fun x8 => [.inl x8, .inl x7]) (σ' := fun x8 => (SH L0, D6)) (fun _ _ => rfl) ?_
    rcases ite_or hb with ⟨hc, hb⟩ | ⟨hc, hb⟩
    · refine ev_ift hc 1 (pc' := 39) (L' := [some (.inr (.inr 187)), some (.inl x4), dv o5]) (S' := []) (σ' := (SH L0, D6)) (fun _ _ => rfl) ?_
      obtain ⟨x9, hx, hb⟩ := bnd hb
      refine ev_bind hx 12 (pc' := 58) (L' := fun x9 => [some (.inr (.inr 187)), some (.inl x4), dv o5]) (S' := fun x9 => [.inl x9, .inl (w32 (90 + (w32 (2 * x4)))), .inr (.inr 188)]) (σ' := fun x9 => (SH L0, D6)) (fun _ _ => rfl) ?_
      obtain ⟨x10, hx, hb⟩ := bnd hb
      refine ev_bind hx 2 (pc' := 60) (L' := fun x10 => [some (.inr (.inr 187)), some (.inl x4), dv o5]) (S' := fun x10 => [.inl x10]) (σ' := fun x10 => (SH L0, D6)) (fun _ _ => rfl) ?_
      obtain ⟨x11, hx, hb⟩ := bnd hb
      refine ev_bind hx 7 (pc' := 71) (L' := fun x11 => [some (.inr (.inr 187)), some (.inl x4), some (.inl x10)]) (S' := fun x11 => [.inl x11, .inl (D6 187 58), .inr (.inr 226)]) (σ' := fun x11 => (SH L0, D6)) (fun _ _ => rfl) ?_
      obtain ⟨D12, hx, hb⟩ := bnd hb
      refine ev_bind hx 3 (pc' := 74) (L' := fun D12 => [some (.inr (.inr 187)), some (.inl x4), some (.inl x10)]) (S' := fun D12 => []) (σ' := fun D12 => (SH L0, D12)) (fun _ _ => rfl) ?_
      rcases ite_or hb with ⟨hc, hb⟩ | ⟨hc, hb⟩
      · refine ev_ift hc 6 (pc' := 85) (L' := [some (.inr (.inr 187)), some (.inl x4), some (.inl x10)]) (S' := []) (σ' := (SH L0, D12)) (fun _ _ => rfl) ?_
        cases hb
        exact ev_go 1 (pc' := 17) (L' := [some (.inr (.inr 187)), some (.inl x4), some (.inl x10)]) (S' := []) (σ' := (SH L0, D12)) (fun _ _ => rfl) (hK1 (some (.inl x10)))
      · refine ev_iff hc 6 (pc' := 88) (L' := [some (.inr (.inr 187)), some (.inl x4), some (.inl x10)]) (S' := []) (σ' := (SH L0, D12)) (fun _ _ => rfl) ?_
        cases hb
        exact hK1
    · refine ev_iff hc 1 (pc' := 104) (L' := [some (.inr (.inr 187)), some (.inl x4), dv o5]) (S' := []) (σ' := (SH L0, D6)) (fun _ _ => rfl) ?_
      cases hb
      exact hK1 o5
set_option maxRecDepth 100000 in
set_option maxHeartbeats 4000000 in
theorem e_X12_runs (L0 d : Nat) (hd : 5 ≤ d) {p1 p2 : Int} {D : DT} {t0 : (Int × DT)} (h : m_X12_runs p1 p2 D = some t0) : Ret mtab d 274 [.inr (.inr 187), .inl p1, .inl p2] (SH L0, D) (some (.inl t0.1), (SH L0, t0.2)) := by
  obtain ⟨d, rfl⟩ : ∃ e, d = e + 1 := ⟨d - 1, by omega⟩
  refine Ret.of (code := k_X12_runs) (ml := 5) rfl ?_
  show EvF mtab d k_X12_runs 0 [some (.inr (.inr 187)), some (.inl p1), some (.inl p2), none, none] [] (SH L0, D) (some (.inl t0.1), (SH L0, t0.2))
  unfold m_X12_runs at h
  obtain ⟨r, hr, h⟩ := bnd h
  have hX : (fun (r : DT) => ∀ (o5 : Option (Sum Int Nat)), EvF mtab d k_X12_runs 22 [some (.inr (.inr 187)), some (.inl p1), some (.inl p2), dv o5, none] [] (SH L0, r) (some (.inl t0.1), (SH L0, t0.2))) r := by
    obtain ⟨D6, hre⟩ : ∃ q, q = r := ⟨r, rfl⟩
    subst hre
    intro o5
    show EvF mtab d k_X12_runs 22 [some (.inr (.inr 187)), some (.inl p1), some (.inl p2), dv o5, none] [] (SH L0, D6) (some (.inl t0.1), (SH L0, t0.2))
    obtain ⟨x7, hx, h⟩ := bnd h
    refine ev_call (e_X12_entryOf L0 d (by omega) hx) 20 (pc' := 54) (L' := [some (.inr (.inr 187)), some (.inl p1), some (.inl p2), some (.inl 0), none]) (S' := []) (fun _ _ => rfl) ?_
    obtain ⟨r, hr, h⟩ := bnd h
    have hX : (fun (r : ((Int × DT) ⊕ (Int × DT))) => match r with | .inl r => (∀ (o15 : Option (Sum Int Nat)), EvF mtab d k_X12_runs 86 [some (.inr (.inr 187)), some (.inl p1), some (.inl p2), some (.inl r.1), dv o15] [] (SH L0, r.2) (some (.inl t0.1), (SH L0, t0.2))) | .inr r => (∀ (o18 : Option (Sum Int Nat)), EvF mtab d k_X12_runs 88 [some (.inr (.inr 187)), some (.inl p1), some (.inl p2), some (.inl r.1), dv o18] [] (SH L0, r.2) (some (.inl t0.1), (SH L0, t0.2)))) r := by
      rcases r with r | r
      · skip
        obtain ⟨l3_14, D16⟩ := r
        intro o15
        show EvF mtab d k_X12_runs 86 [some (.inr (.inr 187)), some (.inl p1), some (.inl p2), some (.inl l3_14), dv o15] [] (SH L0, D16) (some (.inl t0.1), (SH L0, t0.2))
        cases h
        exact ev_ret 2 (fun _ _ => rfl)
      obtain ⟨l3_17, D19⟩ := r
      intro o18
      show EvF mtab d k_X12_runs 88 [some (.inr (.inr 187)), some (.inl p1), some (.inl p2), some (.inl l3_17), dv o18] [] (SH L0, D19) (some (.inl t0.1), (SH L0, t0.2))
      cases h
      exact ev_ret 2 (fun _ _ => rfl)
    clear h
    refine ev_go 1 (pc' := 56) (L' := [some (.inr (.inr 187)), some (.inl p1), some (.inl p2), some (.inl 0), some (.inl x7)]) (S' := []) (σ' := (SH L0, dput (dput (dput (dput (dput D6 187 58 0) 187 59 0) 187 60 0) 187 61 0) 187 62 0)) (fun _ _ => rfl) ?_
    refine loop_ind (P := fun s => EvF mtab d k_X12_runs 56 [some (.inr (.inr 187)), some (.inl p1), some (.inl p2), some (.inl s.1), some (.inl s.2.1)] [] (SH L0, s.2.2) (some (.inl t0.1), (SH L0, t0.2))) (X := fun r => match r with | .inl r => (∀ (o15 : Option (Sum Int Nat)), EvF mtab d k_X12_runs 86 [some (.inr (.inr 187)), some (.inl p1), some (.inl p2), some (.inl r.1), dv o15] [] (SH L0, r.2) (some (.inl t0.1), (SH L0, t0.2))) | .inr r => (∀ (o18 : Option (Sum Int Nat)), EvF mtab d k_X12_runs 88 [some (.inr (.inr 187)), some (.inl p1), some (.inl p2), some (.inl r.1), dv o18] [] (SH L0, r.2) (some (.inl t0.1), (SH L0, t0.2)))) hr hX ?_
    clear hr hX
    intro s t hb hK0
    obtain ⟨l3_8, l4_9, D10⟩ := s
    show EvF mtab d k_X12_runs 56 [some (.inr (.inr 187)), some (.inl p1), some (.inl p2), some (.inl l3_8), some (.inl l4_9)] [] (SH L0, D10) (some (.inl t0.1), (SH L0, t0.2))
    unfold b_X12_runs_56 at hb
    rcases ite_or hb with ⟨hc, hb⟩ | ⟨hc, hb⟩
    · refine ev_ift hc 2 (pc' := 88) (L' := [some (.inr (.inr 187)), some (.inl p1), some (.inl p2), some (.inl l3_8), some (.inl l4_9)]) (S' := []) (σ' := (SH L0, D10)) (fun _ _ => rfl) ?_
      cases hb
      exact hK0 (some (.inl l4_9))
    · refine ev_iff hc 2 (pc' := 61) (L' := [some (.inr (.inr 187)), some (.inl p1), some (.inl p2), some (.inl l3_8), some (.inl l4_9)]) (S' := []) (σ' := (SH L0, D10)) (fun _ _ => rfl) ?_
      obtain ⟨D11, hx, hb⟩ := bnd hb
      refine ev_call (e_X12_enters L0 d (by omega) hx) 4 (pc' := 70) (L' := [some (.inr (.inr 187)), some (.inl p1), some (.inl p2), some (.inl (w32 (l3_8 + 1))), some (.inl l4_9)]) (S' := []) (fun _ _ => rfl) ?_
      obtain ⟨⟨x12, D13⟩, hx, hb⟩ := bnd hb
      refine ev_call (e_X12_nextBlock L0 d (by omega) hx) 2 (pc' := 74) (L' := [some (.inr (.inr 187)), some (.inl p1), some (.inl p2), some (.inl (w32 (l3_8 + 1))), some (.inl l4_9)]) (S' := []) (fun _ _ => rfl) ?_
      rcases ite_or hb with ⟨hc, hb⟩ | ⟨hc, hb⟩
      · refine ev_ift hc 3 (pc' := 56) (L' := [some (.inr (.inr 187)), some (.inl p1), some (.inl p2), some (.inl (w32 (l3_8 + 1))), some (.inl x12)]) (S' := []) (σ' := (SH L0, D13)) (fun _ _ => rfl) ?_
        cases hb
        exact hK0
      · refine ev_iff hc 3 (pc' := 81) (L' := [some (.inr (.inr 187)), some (.inl p1), some (.inl p2), some (.inl (w32 (l3_8 + 1))), some (.inl x12)]) (S' := []) (σ' := (SH L0, D13)) (fun _ _ => rfl) ?_
        rcases ite_or hb with ⟨hc, hb⟩ | ⟨hc, hb⟩
        · refine ev_ift hc 3 (pc' := 86) (L' := [some (.inr (.inr 187)), some (.inl p1), some (.inl p2), some (.inl (w32 (l3_8 + 1))), some (.inl x12)]) (S' := []) (σ' := (SH L0, D13)) (fun _ _ => rfl) ?_
          cases hb
          exact hK0 (some (.inl x12))
        · refine ev_iff hc 3 (pc' := 56) (L' := [some (.inr (.inr 187)), some (.inl p1), some (.inl p2), some (.inl (w32 (l3_8 + 1))), some (.inl x12)]) (S' := []) (σ' := (SH L0, D13)) (fun _ _ => rfl) ?_
          cases hb
          exact hK0
  clear h
  refine ev_go 2 (pc' := 2) (L' := [some (.inr (.inr 187)), some (.inl p1), some (.inl p2), some (.inl 0), none]) (S' := []) (σ' := (SH L0, D)) (fun _ _ => rfl) ?_
  refine loop_ind (P := fun s => EvF mtab d k_X12_runs 2 [some (.inr (.inr 187)), some (.inl p1), some (.inl p2), some (.inl s.1), none] [] (SH L0, s.2) (some (.inl t0.1), (SH L0, t0.2))) (X := fun r => ∀ (o5 : Option (Sum Int Nat)), EvF mtab d k_X12_runs 22 [some (.inr (.inr 187)), some (.inl p1), some (.inl p2), dv o5, none] [] (SH L0, r) (some (.inl t0.1), (SH L0, t0.2))) hr hX ?_
  clear hr hX
  intro s t hb hK0
  obtain ⟨l3_1, D2⟩ := s
  show EvF mtab d k_X12_runs 2 [some (.inr (.inr 187)), some (.inl p1), some (.inl p2), some (.inl l3_1), none] [] (SH L0, D2) (some (.inl t0.1), (SH L0, t0.2))
  unfold b_X12_runs_2 at hb
  rcases ite_or hb with ⟨hc, hb⟩ | ⟨hc, hb⟩
  · refine ev_ift hc 3 (pc' := 9) (L' := [some (.inr (.inr 187)), some (.inl p1), some (.inl p2), some (.inl l3_1), none]) (S' := []) (σ' := (SH L0, D2)) (fun _ _ => rfl) ?_
    obtain ⟨x3, hx, hb⟩ := bnd hb
    obtain ⟨D4, hy, hb⟩ := bnd hb
    refine ev_bind2 (Y := fun x3 => awr D2 223 512 l3_1 x3) hx hy 5 (pc' := 16) (L' := fun x3 D4 => [some (.inr (.inr 187)), some (.inl p1), some (.inl p2), some (.inl l3_1), none]) (S' := fun x3 D4 => []) (σ' := fun x3 D4 => (SH L0, D4)) (fun _ _ => rfl) ?_
    cases hb
    exact ev_go 2 (pc' := 2) (L' := [some (.inr (.inr 187)), some (.inl p1), some (.inl p2), some (.inl (w32 (l3_1 + 1))), none]) (S' := []) (σ' := (SH L0, D4)) (fun _ _ => rfl) hK0
  · refine ev_iff hc 3 (pc' := 22) (L' := [some (.inr (.inr 187)), some (.inl p1), some (.inl p2), some (.inl l3_1), none]) (S' := []) (σ' := (SH L0, D2)) (fun _ _ => rfl) ?_
    cases hb
    exact hK0 (some (.inl l3_1))
set_option maxRecDepth 100000 in
set_option maxHeartbeats 4000000 in
theorem e_X12_run (L0 d : Nat) (hd : 9 ≤ d) {p1 p2 p3 p4 p5 : Int} {D : DT} {t0 : (Int × DT)} (h : m_X12_run p1 p2 p3 p4 p5 D = some t0) : Ret mtab d 275 [.inr (.inr 187), .inl p1, .inl p2, .inl p3, .inl p4, .inl p5] (SH L0, D) (some (.inl t0.1), (SH L0, t0.2)) := by
  obtain ⟨d, rfl⟩ : ∃ e, d = e + 1 := ⟨d - 1, by omega⟩
  refine Ret.of (code := k_X12_run) (ml := 7) rfl ?_
  show EvF mtab d k_X12_run 0 [some (.inr (.inr 187)), some (.inl p1), some (.inl p2), some (.inl p3), some (.inl p4), some (.inl p5), none] [] (SH L0, D) (some (.inl t0.1), (SH L0, t0.2))
  unfold m_X12_run at h
  obtain ⟨x1, hx, h⟩ := bnd h
  refine ev_call (e_X12_isHow L0 d (by omega) hx) 3 (pc' := 5) (L' := [some (.inr (.inr 187)), some (.inl p1), some (.inl p2), some (.inl p3), some (.inl p4), some (.inl p5), none]) (S' := [.inr (.inr 187)]) (fun _ _ => rfl) ?_
  obtain ⟨t5, hv, h⟩ := bnd h
  have hJ : EvF mtab d k_X12_run 46 [some (.inr (.inr 187)), some (.inl p1), some (.inl p2), some (.inl p3), some (.inl p4), some (.inl p5), none] [.inl t5, .inr (.inr 187)] (SH L0, D) (some (.inl t0.1), (SH L0, t0.2)) := by
    obtain ⟨x6, hx, h⟩ := bnd h
    refine ev_call (e_X12_isFun L0 d (by omega) hx) 3 (pc' := 51) (L' := [some (.inr (.inr 187)), some (.inl p1), some (.inl p2), some (.inl p3), some (.inl p4), some (.inl p5), none]) (S' := [.inl t5, .inr (.inr 187)]) (fun _ _ => rfl) ?_
    obtain ⟨⟨x7, D8⟩, hx, h⟩ := bnd h
    refine ev_call (e_X12_asks L0 d (by omega) hx) 1 (pc' := 54) (L' := [some (.inr (.inr 187)), some (.inl p1), some (.inl p2), some (.inl p3), some (.inl p4), some (.inl p5), none]) (S' := []) (fun _ _ => rfl) ?_
    rcases ite_or h with ⟨hc, h⟩ | ⟨hc, h⟩
    · refine ev_ift hc 1 (pc' := 57) (L' := [some (.inr (.inr 187)), some (.inl p1), some (.inl p2), some (.inl p3), some (.inl p4), some (.inl p5), none]) (S' := []) (σ' := (SH L0, D8)) (fun _ _ => rfl) ?_
      cases h
      exact ev_ret 2 (fun _ _ => rfl)
    · refine ev_iff hc 1 (pc' := 59) (L' := [some (.inr (.inr 187)), some (.inl p1), some (.inl p2), some (.inl p3), some (.inl p4), some (.inl p5), none]) (S' := []) (σ' := (SH L0, D8)) (fun _ _ => rfl) ?_
      obtain ⟨D9, hx, h⟩ := bnd h
      refine ev_call (e_X12_brings L0 d (by omega) hx) 3 (pc' := 64) (L' := [some (.inr (.inr 187)), some (.inl p1), some (.inl p2), some (.inl p3), some (.inl p4), some (.inl p5), none]) (S' := []) (fun _ _ => rfl) ?_
      obtain ⟨⟨x10, D11⟩, hx, h⟩ := bnd h
      refine ev_call (e_X12_runs L0 d (by omega) hx) 7 (pc' := 76) (L' := [some (.inr (.inr 187)), some (.inl p1), some (.inl p2), some (.inl p3), some (.inl p4), some (.inl p5), none]) (S' := []) (fun _ _ => rfl) ?_
      rcases ite_or h with ⟨hc, h⟩ | ⟨hc, h⟩
      · refine ev_ift hc 3 (pc' := 83) (L' := [some (.inr (.inr 187)), some (.inl p1), some (.inl p2), some (.inl p3), some (.inl p4), some (.inl p5), some (.inl x10)]) (S' := []) (σ' := (SH L0, D11)) (fun _ _ => rfl) ?_
        cases h
        exact ev_ret 3 (fun _ _ => rfl)
      · refine ev_iff hc 3 (pc' := 88) (L' := [some (.inr (.inr 187)), some (.inl p1), some (.inl p2), some (.inl p3), some (.inl p4), some (.inl p5), some (.inl x10)]) (S' := []) (σ' := (SH L0, D11)) (fun _ _ => rfl) ?_
        rcases ite_or h with ⟨hc, h⟩ | ⟨hc, h⟩
        · refine ev_ift hc 3 (pc' := 94) (L' := [some (.inr (.inr 187)), some (.inl p1), some (.inl p2), some (.inl p3), some (.inl p4), some (.inl p5), some (.inl x10)]) (S' := []) (σ' := (SH L0, D11)) (fun _ _ => rfl) ?_
          cases h
          exact ev_ret 4 (fun _ _ => rfl)
        · refine ev_iff hc 3 (pc' := 101) (L' := [some (.inr (.inr 187)), some (.inl p1), some (.inl p2), some (.inl p3), some (.inl p4), some (.inl p5), some (.inl x10)]) (S' := []) (σ' := (SH L0, D11)) (fun _ _ => rfl) ?_
          rcases ite_or h with ⟨hc, h⟩ | ⟨hc, h⟩
          · refine ev_ift hc 3 (pc' := 107) (L' := [some (.inr (.inr 187)), some (.inl p1), some (.inl p2), some (.inl p3), some (.inl p4), some (.inl p5), some (.inl x10)]) (S' := []) (σ' := (SH L0, D11)) (fun _ _ => rfl) ?_
            cases h
            exact ev_ret 4 (fun _ _ => rfl)
          · refine ev_iff hc 3 (pc' := 114) (L' := [some (.inr (.inr 187)), some (.inl p1), some (.inl p2), some (.inl p3), some (.inl p4), some (.inl p5), some (.inl x10)]) (S' := []) (σ' := (SH L0, D11)) (fun _ _ => rfl) ?_
            cases h
            exact ev_ret 3 (fun _ _ => rfl)
  clear h
  rcases ite_or hv with ⟨hc, hv⟩ | ⟨hc, hv⟩
  · refine ev_ift hc 1 (pc' := 45) (L' := [some (.inr (.inr 187)), some (.inl p1), some (.inl p2), some (.inl p3), some (.inl p4), some (.inl p5), none]) (S' := [.inr (.inr 187)]) (σ' := (SH L0, D)) (fun _ _ => rfl) ?_
    have he0 := Option.some.inj hv
    subst he0
    exact ev_go 1 (pc' := 46) (L' := [some (.inr (.inr 187)), some (.inl p1), some (.inl p2), some (.inl p3), some (.inl p4), some (.inl p5), none]) (S' := [.inl 0, .inr (.inr 187)]) (σ' := (SH L0, D)) (fun _ _ => rfl) hJ
  · refine ev_iff hc 1 (pc' := 8) (L' := [some (.inr (.inr 187)), some (.inl p1), some (.inl p2), some (.inl p3), some (.inl p4), some (.inl p5), none]) (S' := [.inr (.inr 187)]) (σ' := (SH L0, D)) (fun _ _ => rfl) ?_
    obtain ⟨x2, hx, hv⟩ := bnd hv
    refine ev_call (e_X12_isIn L0 d (by omega) hx) 4 (pc' := 16) (L' := [some (.inr (.inr 187)), some (.inl p1), some (.inl p2), some (.inl p3), some (.inl p4), some (.inl p5), none]) (S' := [.inr (.inr 187)]) (fun _ _ => rfl) ?_
    rcases ite_or hv with ⟨hc, hv⟩ | ⟨hc, hv⟩
    · refine ev_ift hc 1 (pc' := 45) (L' := [some (.inr (.inr 187)), some (.inl p1), some (.inl p2), some (.inl p3), some (.inl p4), some (.inl p5), none]) (S' := [.inr (.inr 187)]) (σ' := (SH L0, D)) (fun _ _ => rfl) ?_
      have he0 := Option.some.inj hv
      subst he0
      exact ev_go 1 (pc' := 46) (L' := [some (.inr (.inr 187)), some (.inl p1), some (.inl p2), some (.inl p3), some (.inl p4), some (.inl p5), none]) (S' := [.inl 0, .inr (.inr 187)]) (σ' := (SH L0, D)) (fun _ _ => rfl) hJ
    · refine ev_iff hc 1 (pc' := 19) (L' := [some (.inr (.inr 187)), some (.inl p1), some (.inl p2), some (.inl p3), some (.inl p4), some (.inl p5), none]) (S' := [.inr (.inr 187)]) (σ' := (SH L0, D)) (fun _ _ => rfl) ?_
      obtain ⟨x3, hx, hv⟩ := bnd hv
      refine ev_call (e_X12_isIn L0 d (by omega) hx) 4 (pc' := 28) (L' := [some (.inr (.inr 187)), some (.inl p1), some (.inl p2), some (.inl p3), some (.inl p4), some (.inl p5), none]) (S' := [.inr (.inr 187)]) (fun _ _ => rfl) ?_
      rcases ite_or hv with ⟨hc, hv⟩ | ⟨hc, hv⟩
      · refine ev_ift hc 1 (pc' := 45) (L' := [some (.inr (.inr 187)), some (.inl p1), some (.inl p2), some (.inl p3), some (.inl p4), some (.inl p5), none]) (S' := [.inr (.inr 187)]) (σ' := (SH L0, D)) (fun _ _ => rfl) ?_
        have he0 := Option.some.inj hv
        subst he0
        exact ev_go 1 (pc' := 46) (L' := [some (.inr (.inr 187)), some (.inl p1), some (.inl p2), some (.inl p3), some (.inl p4), some (.inl p5), none]) (S' := [.inl 0, .inr (.inr 187)]) (σ' := (SH L0, D)) (fun _ _ => rfl) hJ
      · refine ev_iff hc 1 (pc' := 31) (L' := [some (.inr (.inr 187)), some (.inl p1), some (.inl p2), some (.inl p3), some (.inl p4), some (.inl p5), none]) (S' := [.inr (.inr 187)]) (σ' := (SH L0, D)) (fun _ _ => rfl) ?_
        obtain ⟨x4, hx, hv⟩ := bnd hv
        refine ev_call (e_X12_isIn L0 d (by omega) hx) 4 (pc' := 38) (L' := [some (.inr (.inr 187)), some (.inl p1), some (.inl p2), some (.inl p3), some (.inl p4), some (.inl p5), none]) (S' := [.inr (.inr 187)]) (fun _ _ => rfl) ?_
        rcases ite_or hv with ⟨hc, hv⟩ | ⟨hc, hv⟩
        · refine ev_ift hc 1 (pc' := 45) (L' := [some (.inr (.inr 187)), some (.inl p1), some (.inl p2), some (.inl p3), some (.inl p4), some (.inl p5), none]) (S' := [.inr (.inr 187)]) (σ' := (SH L0, D)) (fun _ _ => rfl) ?_
          have he0 := Option.some.inj hv
          subst he0
          exact ev_go 1 (pc' := 46) (L' := [some (.inr (.inr 187)), some (.inl p1), some (.inl p2), some (.inl p3), some (.inl p4), some (.inl p5), none]) (S' := [.inl 0, .inr (.inr 187)]) (σ' := (SH L0, D)) (fun _ _ => rfl) hJ
        · refine ev_iff hc 1 (pc' := 41) (L' := [some (.inr (.inr 187)), some (.inl p1), some (.inl p2), some (.inl p3), some (.inl p4), some (.inl p5), none]) (S' := [.inr (.inr 187)]) (σ' := (SH L0, D)) (fun _ _ => rfl) ?_
          have he0 := Option.some.inj hv
          subst he0
          exact ev_go 2 (pc' := 46) (L' := [some (.inr (.inr 187)), some (.inl p1), some (.inl p2), some (.inl p3), some (.inl p4), some (.inl p5), none]) (S' := [.inl 1, .inr (.inr 187)]) (σ' := (SH L0, D)) (fun _ _ => rfl) hJ
set_option maxRecDepth 100000 in
set_option maxHeartbeats 4000000 in
theorem e_X12_count (L0 d : Nat) (hd : 3 ≤ d) {p1 p2 : Int} {D : DT} {t0 : (Int × DT)} (h : m_X12_count p1 p2 D = some t0) : Ret mtab d 276 [.inr (.inr 187), .inl p1, .inl p2] (SH L0, D) (some (.inl t0.1), (SH L0, t0.2)) := by
  obtain ⟨d, rfl⟩ : ∃ e, d = e + 1 := ⟨d - 1, by omega⟩
  refine Ret.of (code := k_X12_count) (ml := 4) rfl ?_
  show EvF mtab d k_X12_count 0 [some (.inr (.inr 187)), some (.inl p1), some (.inl p2), none] [] (SH L0, D) (some (.inl t0.1), (SH L0, t0.2))
  unfold m_X12_count at h
  obtain ⟨x1, hx, h⟩ := bnd h
  refine ev_call (e_X12_isIn L0 d (by omega) hx) 8 (pc' := 14) (L' := [some (.inr (.inr 187)), some (.inl p1), some (.inl p2), none]) (S' := [.inr (.inr 187)]) (fun _ _ => rfl) ?_
  obtain ⟨t3, hv, h⟩ := bnd h
  have hJ : EvF mtab d k_X12_count 34 [some (.inr (.inr 187)), some (.inl p1), some (.inl p2), none] [.inl t3, .inr (.inr 187)] (SH L0, dput D 187 3 0) (some (.inl t0.1), (SH L0, t0.2)) := by
    rcases ite_or h with ⟨hc, h⟩ | ⟨hc, h⟩
    · refine ev_ift hc 4 (pc' := 44) (L' := [some (.inr (.inr 187)), some (.inl p1), some (.inl p2), none]) (S' := []) (σ' := (SH L0, dput (dput D 187 3 0) 187 2 t3)) (fun _ _ => rfl) ?_
      cases h
      exact ev_ret 2 (fun _ _ => rfl)
    · refine ev_iff hc 4 (pc' := 46) (L' := [some (.inr (.inr 187)), some (.inl p1), some (.inl p2), none]) (S' := []) (σ' := (SH L0, dput (dput D 187 3 0) 187 2 t3)) (fun _ _ => rfl) ?_
      obtain ⟨x4, hx, h⟩ := bnd h
      refine ev_bind hx 6 (pc' := 56) (L' := fun x4 => [some (.inr (.inr 187)), some (.inl p1), some (.inl p2), none]) (S' := fun x4 => [.inl x4]) (σ' := fun x4 => (SH L0, dput (dput D 187 3 0) 187 2 t3)) (fun _ _ => rfl) ?_
      rcases ite_or h with ⟨hc, h⟩ | ⟨hc, h⟩
      · refine ev_ift hc 4 (pc' := 62) (L' := [some (.inr (.inr 187)), some (.inl p1), some (.inl p2), some (.inl x4)]) (S' := []) (σ' := (SH L0, dput (dput D 187 3 0) 187 2 t3)) (fun _ _ => rfl) ?_
        obtain ⟨⟨x5, D6⟩, hx, h⟩ := bnd h
        refine ev_call (e_X12_refuse L0 d (by omega) hx) 3 (pc' := 67) (L' := [some (.inr (.inr 187)), some (.inl p1), some (.inl p2), some (.inl x4)]) (S' := []) (fun _ _ => rfl) ?_
        cases h
        exact ev_ret 1 (fun _ _ => rfl)
      · refine ev_iff hc 4 (pc' := 68) (L' := [some (.inr (.inr 187)), some (.inl p1), some (.inl p2), some (.inl x4)]) (S' := []) (σ' := (SH L0, dput (dput D 187 3 0) 187 2 t3)) (fun _ _ => rfl) ?_
        obtain ⟨D7, hx, h⟩ := bnd h
        refine ev_call (e_X12_keeps L0 d (by omega) hx) 2 (pc' := 72) (L' := [some (.inr (.inr 187)), some (.inl p1), some (.inl p2), some (.inl x4)]) (S' := []) (fun _ _ => rfl) ?_
        obtain ⟨D8, hx, h⟩ := bnd h
        refine ev_bind hx 7 (pc' := 83) (L' := fun D8 => [some (.inr (.inr 187)), some (.inl p1), some (.inl p2), some (.inl x4)]) (S' := fun D8 => []) (σ' := fun D8 => (SH L0, D8)) (fun _ _ => rfl) ?_
        cases h
        exact ev_ret 2 (fun _ _ => rfl)
  clear h
  rcases ite_or hv with ⟨hc, hv⟩ | ⟨hc, hv⟩
  · refine ev_ift hc 1 (pc' := 17) (L' := [some (.inr (.inr 187)), some (.inl p1), some (.inl p2), none]) (S' := [.inr (.inr 187)]) (σ' := (SH L0, dput D 187 3 0)) (fun _ _ => rfl) ?_
    have he0 := Option.some.inj hv
    subst he0
    exact ev_go 2 (pc' := 34) (L' := [some (.inr (.inr 187)), some (.inl p1), some (.inl p2), none]) (S' := [.inl 1, .inr (.inr 187)]) (σ' := (SH L0, dput D 187 3 0)) (fun _ _ => rfl) hJ
  · refine ev_iff hc 1 (pc' := 21) (L' := [some (.inr (.inr 187)), some (.inl p1), some (.inl p2), none]) (S' := [.inr (.inr 187)]) (σ' := (SH L0, dput D 187 3 0)) (fun _ _ => rfl) ?_
    obtain ⟨x2, hx, hv⟩ := bnd hv
    refine ev_call (e_X12_isArc L0 d (by omega) hx) 3 (pc' := 26) (L' := [some (.inr (.inr 187)), some (.inl p1), some (.inl p2), none]) (S' := [.inr (.inr 187)]) (fun _ _ => rfl) ?_
    rcases ite_or hv with ⟨hc, hv⟩ | ⟨hc, hv⟩
    · refine ev_ift hc 1 (pc' := 29) (L' := [some (.inr (.inr 187)), some (.inl p1), some (.inl p2), none]) (S' := [.inr (.inr 187)]) (σ' := (SH L0, dput D 187 3 0)) (fun _ _ => rfl) ?_
      have he0 := Option.some.inj hv
      subst he0
      exact ev_go 2 (pc' := 34) (L' := [some (.inr (.inr 187)), some (.inl p1), some (.inl p2), none]) (S' := [.inl 2, .inr (.inr 187)]) (σ' := (SH L0, dput D 187 3 0)) (fun _ _ => rfl) hJ
    · refine ev_iff hc 1 (pc' := 33) (L' := [some (.inr (.inr 187)), some (.inl p1), some (.inl p2), none]) (S' := [.inr (.inr 187)]) (σ' := (SH L0, dput D 187 3 0)) (fun _ _ => rfl) ?_
      have he0 := Option.some.inj hv
      subst he0
      exact ev_go 1 (pc' := 34) (L' := [some (.inr (.inr 187)), some (.inl p1), some (.inl p2), none]) (S' := [.inl 0, .inr (.inr 187)]) (σ' := (SH L0, dput D 187 3 0)) (fun _ _ => rfl) hJ
set_option maxRecDepth 100000 in
set_option maxHeartbeats 4000000 in
theorem e_X12_set (L0 d : Nat) (hd : 3 ≤ d) {p1 p2 : Int} {D : DT} {t0 : (Int × DT)} (h : m_X12_set p1 p2 D = some t0) : Ret mtab d 277 [.inr (.inr 187), .inl p1, .inl p2] (SH L0, D) (some (.inl t0.1), (SH L0, t0.2)) := by
  obtain ⟨d, rfl⟩ : ∃ e, d = e + 1 := ⟨d - 1, by omega⟩
  refine Ret.of (code := k_X12_set) (ml := 5) rfl ?_
  show EvF mtab d k_X12_set 0 [some (.inr (.inr 187)), some (.inl p1), some (.inl p2), none, none] [] (SH L0, D) (some (.inl t0.1), (SH L0, t0.2))
  unfold m_X12_set at h
  obtain ⟨t4, hv, h⟩ := bnd h
  have hJ : EvF mtab d k_X12_set 62 [some (.inr (.inr 187)), some (.inl p1), some (.inl p2), none, none] [.inl t4] (SH L0, dput (dput D 187 3 0) 187 2 0) (some (.inl t0.1), (SH L0, t0.2)) := by
    rcases ite_or h with ⟨hc, h⟩ | ⟨hc, h⟩
    · refine ev_ift hc 3 (pc' := 67) (L' := [some (.inr (.inr 187)), some (.inl p1), some (.inl p2), some (.inl t4), none]) (S' := []) (σ' := (SH L0, dput (dput D 187 3 0) 187 2 0)) (fun _ _ => rfl) ?_
      obtain ⟨⟨x5, D6⟩, hx, h⟩ := bnd h
      refine ev_call (e_X12_refuse L0 d (by omega) hx) 3 (pc' := 72) (L' := [some (.inr (.inr 187)), some (.inl p1), some (.inl p2), some (.inl t4), none]) (S' := []) (fun _ _ => rfl) ?_
      cases h
      exact ev_ret 1 (fun _ _ => rfl)
    · refine ev_iff hc 3 (pc' := 73) (L' := [some (.inr (.inr 187)), some (.inl p1), some (.inl p2), some (.inl t4), none]) (S' := []) (σ' := (SH L0, dput (dput D 187 3 0) 187 2 0)) (fun _ _ => rfl) ?_
      obtain ⟨x7, hx, h⟩ := bnd h
      refine ev_bind hx 6 (pc' := 81) (L' := fun x7 => [some (.inr (.inr 187)), some (.inl p1), some (.inl p2), some (.inl t4), none]) (S' := fun x7 => [.inl x7]) (σ' := fun x7 => (SH L0, dput (dput D 187 3 0) 187 2 0)) (fun _ _ => rfl) ?_
      rcases ite_or h with ⟨hc, h⟩ | ⟨hc, h⟩
      · refine ev_ift hc 4 (pc' := 89) (L' := [some (.inr (.inr 187)), some (.inl p1), some (.inl p2), some (.inl t4), some (.inl x7)]) (S' := []) (σ' := (SH L0, dput (dput D 187 3 0) 187 2 0)) (fun _ _ => rfl) ?_
        obtain ⟨⟨x8, D9⟩, hx, h⟩ := bnd h
        refine ev_call (e_X12_refuse L0 d (by omega) hx) 3 (pc' := 94) (L' := [some (.inr (.inr 187)), some (.inl p1), some (.inl p2), some (.inl t4), some (.inl x7)]) (S' := []) (fun _ _ => rfl) ?_
        cases h
        exact ev_ret 1 (fun _ _ => rfl)
      · refine ev_iff hc 4 (pc' := 95) (L' := [some (.inr (.inr 187)), some (.inl p1), some (.inl p2), some (.inl t4), some (.inl x7)]) (S' := []) (σ' := (SH L0, dput (dput D 187 3 0) 187 2 0)) (fun _ _ => rfl) ?_
        obtain ⟨D10, hx, h⟩ := bnd h
        refine ev_call (e_X12_keeps L0 d (by omega) hx) 2 (pc' := 99) (L' := [some (.inr (.inr 187)), some (.inl p1), some (.inl p2), some (.inl t4), some (.inl x7)]) (S' := []) (fun _ _ => rfl) ?_
        obtain ⟨D11, hx, h⟩ := bnd h
        refine ev_bind hx 7 (pc' := 108) (L' := fun D11 => [some (.inr (.inr 187)), some (.inl p1), some (.inl p2), some (.inl t4), some (.inl x7)]) (S' := fun D11 => []) (σ' := fun D11 => (SH L0, D11)) (fun _ _ => rfl) ?_
        cases h
        exact ev_ret 2 (fun _ _ => rfl)
  clear h
  rcases ite_or hv with ⟨hc, hv⟩ | ⟨hc, hv⟩
  · refine ev_ift hc 8 (pc' := 14) (L' := [some (.inr (.inr 187)), some (.inl p1), some (.inl p2), none, none]) (S' := []) (σ' := (SH L0, dput (dput D 187 3 0) 187 2 0)) (fun _ _ => rfl) ?_
    obtain ⟨x1, hx, hv⟩ := bnd hv
    refine ev_call (e_X12_isIn L0 d (by omega) hx) 4 (pc' := 22) (L' := [some (.inr (.inr 187)), some (.inl p1), some (.inl p2), none, none]) (S' := []) (fun _ _ => rfl) ?_
    have he0 := Option.some.inj hv
    subst he0
    exact ev_go 1 (pc' := 62) (L' := [some (.inr (.inr 187)), some (.inl p1), some (.inl p2), none, none]) (S' := [.inl x1]) (σ' := (SH L0, dput (dput D 187 3 0) 187 2 0)) (fun _ _ => rfl) hJ
  · refine ev_iff hc 8 (pc' := 25) (L' := [some (.inr (.inr 187)), some (.inl p1), some (.inl p2), none, none]) (S' := []) (σ' := (SH L0, dput (dput D 187 3 0) 187 2 0)) (fun _ _ => rfl) ?_
    rcases ite_or hv with ⟨hc, hv⟩ | ⟨hc, hv⟩
    · refine ev_ift hc 3 (pc' := 30) (L' := [some (.inr (.inr 187)), some (.inl p1), some (.inl p2), none, none]) (S' := []) (σ' := (SH L0, dput (dput D 187 3 0) 187 2 0)) (fun _ _ => rfl) ?_
      obtain ⟨x2, hx, hv⟩ := bnd hv
      refine ev_call (e_X12_isIn L0 d (by omega) hx) 4 (pc' := 39) (L' := [some (.inr (.inr 187)), some (.inl p1), some (.inl p2), none, none]) (S' := []) (fun _ _ => rfl) ?_
      have he0 := Option.some.inj hv
      subst he0
      exact ev_go 1 (pc' := 62) (L' := [some (.inr (.inr 187)), some (.inl p1), some (.inl p2), none, none]) (S' := [.inl x2]) (σ' := (SH L0, dput (dput D 187 3 0) 187 2 0)) (fun _ _ => rfl) hJ
    · refine ev_iff hc 3 (pc' := 42) (L' := [some (.inr (.inr 187)), some (.inl p1), some (.inl p2), none, none]) (S' := []) (σ' := (SH L0, dput (dput D 187 3 0) 187 2 0)) (fun _ _ => rfl) ?_
      rcases ite_or hv with ⟨hc, hv⟩ | ⟨hc, hv⟩
      · refine ev_ift hc 3 (pc' := 47) (L' := [some (.inr (.inr 187)), some (.inl p1), some (.inl p2), none, none]) (S' := []) (σ' := (SH L0, dput (dput D 187 3 0) 187 2 0)) (fun _ _ => rfl) ?_
        obtain ⟨x3, hx, hv⟩ := bnd hv
        refine ev_call (e_X12_isIn L0 d (by omega) hx) 4 (pc' := 54) (L' := [some (.inr (.inr 187)), some (.inl p1), some (.inl p2), none, none]) (S' := []) (fun _ _ => rfl) ?_
        rcases ite_or hv with ⟨hc, hv⟩ | ⟨hc, hv⟩
        · refine ev_ift hc 1 (pc' := 61) (L' := [some (.inr (.inr 187)), some (.inl p1), some (.inl p2), none, none]) (S' := []) (σ' := (SH L0, dput (dput D 187 3 0) 187 2 0)) (fun _ _ => rfl) ?_
          have he0 := Option.some.inj hv
          subst he0
          exact ev_go 1 (pc' := 62) (L' := [some (.inr (.inr 187)), some (.inl p1), some (.inl p2), none, none]) (S' := [.inl 0]) (σ' := (SH L0, dput (dput D 187 3 0) 187 2 0)) (fun _ _ => rfl) hJ
        · refine ev_iff hc 1 (pc' := 57) (L' := [some (.inr (.inr 187)), some (.inl p1), some (.inl p2), none, none]) (S' := []) (σ' := (SH L0, dput (dput D 187 3 0) 187 2 0)) (fun _ _ => rfl) ?_
          have he0 := Option.some.inj hv
          subst he0
          exact ev_go 2 (pc' := 62) (L' := [some (.inr (.inr 187)), some (.inl p1), some (.inl p2), none, none]) (S' := [.inl 1]) (σ' := (SH L0, dput (dput D 187 3 0) 187 2 0)) (fun _ _ => rfl) hJ
      · refine ev_iff hc 3 (pc' := 61) (L' := [some (.inr (.inr 187)), some (.inl p1), some (.inl p2), none, none]) (S' := []) (σ' := (SH L0, dput (dput D 187 3 0) 187 2 0)) (fun _ _ => rfl) ?_
        have he0 := Option.some.inj hv
        subst he0
        exact ev_go 1 (pc' := 62) (L' := [some (.inr (.inr 187)), some (.inl p1), some (.inl p2), none, none]) (S' := [.inl 0]) (σ' := (SH L0, dput (dput D 187 3 0) 187 2 0)) (fun _ _ => rfl) hJ
