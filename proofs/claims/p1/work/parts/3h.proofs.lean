set_option maxRecDepth 100000 in
set_option maxHeartbeats 4000000 in
theorem e_X12_whole (L0 d : Nat) (hd : 1 ≤ d) {p0 : Int} {D : DT} {t0 : Int} (h : m_X12_whole p0 D = some t0) : Ret mtab d 179 [.inl p0] (SH L0, D) (some (.inl t0), (SH L0, D)) := by
  obtain ⟨d, rfl⟩ : ∃ e, d = e + 1 := ⟨d - 1, by omega⟩
  refine Ret.of (code := k_X12_whole) (ml := 1) rfl ?_
  show EvF mtab d k_X12_whole 0 [some (.inl p0)] [] (SH L0, D) (some (.inl t0), (SH L0, D))
  unfold m_X12_whole at h
  rcases ite_or h with ⟨hc, h⟩ | ⟨hc, h⟩
  · refine ev_ift hc 2 (pc' := 4) (L' := [some (.inl p0)]) (S' := []) (σ' := (SH L0, D)) (fun _ _ => rfl) ?_
    cases h
    exact ev_ret 3 (fun _ _ => rfl)
  · refine ev_iff hc 2 (pc' := 8) (L' := [some (.inl p0)]) (S' := []) (σ' := (SH L0, D)) (fun _ _ => rfl) ?_
    cases h
    exact ev_ret 2 (fun _ _ => rfl)
set_option maxRecDepth 100000 in
set_option maxHeartbeats 4000000 in
theorem e_X12_at (L0 d : Nat) (hd : 1 ≤ d) {p0 : Int} {D : DT} {t0 : Int} (h : m_X12_at p0 D = some t0) : Ret mtab d 180 [.inl p0] (SH L0, D) (some (.inl t0), (SH L0, D)) := by
  obtain ⟨d, rfl⟩ : ∃ e, d = e + 1 := ⟨d - 1, by omega⟩
  refine Ret.of (code := k_X12_at) (ml := 1) rfl ?_
  show EvF mtab d k_X12_at 0 [some (.inl p0)] [] (SH L0, D) (some (.inl t0), (SH L0, D))
  unfold m_X12_at at h
  rcases ite_or h with ⟨hc, h⟩ | ⟨hc, h⟩
  · refine ev_ift hc 2 (pc' := 4) (L' := [some (.inl p0)]) (S' := []) (σ' := (SH L0, D)) (fun _ _ => rfl) ?_
    cases h
    exact ev_ret 3 (fun _ _ => rfl)
  · refine ev_iff hc 2 (pc' := 9) (L' := [some (.inl p0)]) (S' := []) (σ' := (SH L0, D)) (fun _ _ => rfl) ?_
    cases h
    exact ev_ret 2 (fun _ _ => rfl)
set_option maxRecDepth 100000 in
set_option maxHeartbeats 4000000 in
theorem e_X12_funOfArc (L0 d : Nat) (hd : 2 ≤ d) {p1 : Int} {D : DT} {t0 : Int} (h : m_X12_funOfArc p1 D = some t0) : Ret mtab d 181 [.inr (.inr 187), .inl p1] (SH L0, D) (some (.inl t0), (SH L0, D)) := by
  obtain ⟨d, rfl⟩ : ∃ e, d = e + 1 := ⟨d - 1, by omega⟩
  refine Ret.of (code := k_X12_funOfArc) (ml := 2) rfl ?_
  show EvF mtab d k_X12_funOfArc 0 [some (.inr (.inr 187)), some (.inl p1)] [] (SH L0, D) (some (.inl t0), (SH L0, D))
  unfold m_X12_funOfArc at h
  obtain ⟨x1, hx, h⟩ := bnd h
  refine ev_call (e_X12_funs L0 d (by omega) hx) 3 (pc' := 5) (L' := [some (.inr (.inr 187)), some (.inl p1)]) (S' := [.inl p1]) (fun _ _ => rfl) ?_
  rcases ite_or h with ⟨hc, h⟩ | ⟨hc, h⟩
  · refine ev_ift hc 1 (pc' := 8) (L' := [some (.inr (.inr 187)), some (.inl p1)]) (S' := []) (σ' := (SH L0, D)) (fun _ _ => rfl) ?_
    cases h
    exact ev_ret 3 (fun _ _ => rfl)
  · refine ev_iff hc 1 (pc' := 12) (L' := [some (.inr (.inr 187)), some (.inl p1)]) (S' := []) (σ' := (SH L0, D)) (fun _ _ => rfl) ?_
    obtain ⟨x2, hx, h⟩ := bnd h
    refine ev_bind hx 7 (pc' := 23) (L' := fun x2 => [some (.inr (.inr 187)), some (.inl p1)]) (S' := fun x2 => [.inl x2, .inr (.inr 187)]) (σ' := fun x2 => (SH L0, D)) (fun _ _ => rfl) ?_
    obtain ⟨x3, hx, h⟩ := bnd h
    refine ev_call (e_X12_funOf L0 d (by omega) hx) 1 (pc' := 26) (L' := [some (.inr (.inr 187)), some (.inl p1)]) (S' := []) (fun _ _ => rfl) ?_
    cases h
    exact ev_ret 1 (fun _ _ => rfl)
set_option maxRecDepth 100000 in
set_option maxHeartbeats 4000000 in
theorem e_X12_nextByCount (L0 d : Nat) (hd : 3 ≤ d) {p1 : Int} {D : DT} {t0 : Int} (h : m_X12_nextByCount p1 D = some t0) : Ret mtab d 182 [.inr (.inr 187), .inl p1] (SH L0, D) (some (.inl t0), (SH L0, D)) := by
  obtain ⟨d, rfl⟩ : ∃ e, d = e + 1 := ⟨d - 1, by omega⟩
  refine Ret.of (code := k_X12_nextByCount) (ml := 4) rfl ?_
  show EvF mtab d k_X12_nextByCount 0 [some (.inr (.inr 187)), some (.inl p1), none, none] [] (SH L0, D) (some (.inl t0), (SH L0, D))
  unfold m_X12_nextByCount at h
  obtain ⟨r, hr, h⟩ := bnd h
  have hX : (fun (r : Int) => ∀ (o10 : Option (Sum Int Nat)), EvF mtab d k_X12_nextByCount 65 [some (.inr (.inr 187)), some (.inl p1), some (.inl r), dv o10] [] (SH L0, D) (some (.inl t0), (SH L0, D))) r := by
    obtain ⟨l2_9, hre⟩ : ∃ q, q = r := ⟨r, rfl⟩
    subst hre
    intro o10
    show EvF mtab d k_X12_nextByCount 65 [some (.inr (.inr 187)), some (.inl p1), some (.inl l2_9), dv o10] [] (SH L0, D) (some (.inl t0), (SH L0, D))
    cases h
    exact ev_ret 2 (fun _ _ => rfl)
  clear h
  refine ev_go 4 (pc' := 4) (L' := [some (.inr (.inr 187)), some (.inl p1), some (.inl (-1)), some (.inl 0)]) (S' := []) (σ' := (SH L0, D)) (fun _ _ => rfl) ?_
  refine loop_ind (P := fun s => EvF mtab d k_X12_nextByCount 4 [some (.inr (.inr 187)), some (.inl p1), some (.inl s.1), some (.inl s.2)] [] (SH L0, D) (some (.inl t0), (SH L0, D))) (X := fun r => ∀ (o10 : Option (Sum Int Nat)), EvF mtab d k_X12_nextByCount 65 [some (.inr (.inr 187)), some (.inl p1), some (.inl r), dv o10] [] (SH L0, D) (some (.inl t0), (SH L0, D))) hr hX ?_
  clear hr hX
  intro s t hb hK0
  obtain ⟨l2_1, l3_2⟩ := s
  show EvF mtab d k_X12_nextByCount 4 [some (.inr (.inr 187)), some (.inl p1), some (.inl l2_1), some (.inl l3_2)] [] (SH L0, D) (some (.inl t0), (SH L0, D))
  unfold b_X12_nextByCount_4 at hb
  obtain ⟨x3, hx, hb⟩ := bnd hb
  refine ev_call (e_X12_arcs L0 d (by omega) hx) 3 (pc' := 9) (L' := [some (.inr (.inr 187)), some (.inl p1), some (.inl l2_1), some (.inl l3_2)]) (S' := [.inl l3_2]) (fun _ _ => rfl) ?_
  rcases ite_or hb with ⟨hc, hb⟩ | ⟨hc, hb⟩
  · refine ev_ift hc 1 (pc' := 12) (L' := [some (.inr (.inr 187)), some (.inl p1), some (.inl l2_1), some (.inl l3_2)]) (S' := []) (σ' := (SH L0, D)) (fun _ _ => rfl) ?_
    obtain ⟨x4, hx, hb⟩ := bnd hb
    refine ev_bind hx 4 (pc' := 18) (L' := fun x4 => [some (.inr (.inr 187)), some (.inl p1), some (.inl l2_1), some (.inl l3_2)]) (S' := fun x4 => [.inl x4]) (σ' := fun x4 => (SH L0, D)) (fun _ _ => rfl) ?_
    obtain ⟨l2_8, hv, hb⟩ := bnd hb
    have hJ : EvF mtab d k_X12_nextByCount 59 [some (.inr (.inr 187)), some (.inl p1), some (.inl l2_8), some (.inl l3_2)] [] (SH L0, D) (some (.inl t0), (SH L0, D)) := by
      cases hb
      exact ev_go 2 (pc' := 4) (L' := [some (.inr (.inr 187)), some (.inl p1), some (.inl l2_8), some (.inl (w32 (l3_2 + 1)))]) (S' := []) (σ' := (SH L0, D)) (fun _ _ => rfl) hK0
    clear hb
    rcases ite_or hv with ⟨hc, hv⟩ | ⟨hc, hv⟩
    · refine ev_ift hc 1 (pc' := 21) (L' := [some (.inr (.inr 187)), some (.inl p1), some (.inl l2_1), some (.inl l3_2)]) (S' := []) (σ' := (SH L0, D)) (fun _ _ => rfl) ?_
      obtain ⟨x5, hx, hv⟩ := bnd hv
      refine ev_call (e_X12_funOfArc L0 d (by omega) hx) 3 (pc' := 26) (L' := [some (.inr (.inr 187)), some (.inl p1), some (.inl l2_1), some (.inl l3_2)]) (S' := []) (fun _ _ => rfl) ?_
      rcases ite_or hv with ⟨hc, hv⟩ | ⟨hc, hv⟩
      · refine ev_ift hc 2 (pc' := 30) (L' := [some (.inr (.inr 187)), some (.inl p1), some (.inl l2_1), some (.inl l3_2)]) (S' := []) (σ' := (SH L0, D)) (fun _ _ => rfl) ?_
        rcases ite_or hv with ⟨hc, hv⟩ | ⟨hc, hv⟩
        · refine ev_ift hc 2 (pc' := 57) (L' := [some (.inr (.inr 187)), some (.inl p1), some (.inl l2_1), some (.inl l3_2)]) (S' := []) (σ' := (SH L0, D)) (fun _ _ => rfl) ?_
          have he0 := Option.some.inj hv
          subst he0
          exact ev_go 2 (pc' := 59) (L' := [some (.inr (.inr 187)), some (.inl p1), some (.inl l3_2), some (.inl l3_2)]) (S' := []) (σ' := (SH L0, D)) (fun _ _ => rfl) hJ
        · refine ev_iff hc 2 (pc' := 34) (L' := [some (.inr (.inr 187)), some (.inl p1), some (.inl l2_1), some (.inl l3_2)]) (S' := []) (σ' := (SH L0, D)) (fun _ _ => rfl) ?_
          obtain ⟨x6, hx, hv⟩ := bnd hv
          refine ev_bind hx 6 (pc' := 44) (L' := fun x6 => [some (.inr (.inr 187)), some (.inl p1), some (.inl l2_1), some (.inl l3_2)]) (S' := fun x6 => [.inl x6]) (σ' := fun x6 => (SH L0, D)) (fun _ _ => rfl) ?_
          obtain ⟨x7, hx, hv⟩ := bnd hv
          refine ev_bind hx 6 (pc' := 54) (L' := fun x7 => [some (.inr (.inr 187)), some (.inl p1), some (.inl l2_1), some (.inl l3_2)]) (S' := fun x7 => [.inl x7, .inl x6]) (σ' := fun x7 => (SH L0, D)) (fun _ _ => rfl) ?_
          rcases ite_or hv with ⟨hc, hv⟩ | ⟨hc, hv⟩
          · refine ev_ift hc 1 (pc' := 57) (L' := [some (.inr (.inr 187)), some (.inl p1), some (.inl l2_1), some (.inl l3_2)]) (S' := []) (σ' := (SH L0, D)) (fun _ _ => rfl) ?_
            have he0 := Option.some.inj hv
            subst he0
            exact ev_go 2 (pc' := 59) (L' := [some (.inr (.inr 187)), some (.inl p1), some (.inl l3_2), some (.inl l3_2)]) (S' := []) (σ' := (SH L0, D)) (fun _ _ => rfl) hJ
          · refine ev_iff hc 1 (pc' := 59) (L' := [some (.inr (.inr 187)), some (.inl p1), some (.inl l2_1), some (.inl l3_2)]) (S' := []) (σ' := (SH L0, D)) (fun _ _ => rfl) ?_
            have he0 := Option.some.inj hv
            subst he0
            exact hJ
      · refine ev_iff hc 2 (pc' := 59) (L' := [some (.inr (.inr 187)), some (.inl p1), some (.inl l2_1), some (.inl l3_2)]) (S' := []) (σ' := (SH L0, D)) (fun _ _ => rfl) ?_
        have he0 := Option.some.inj hv
        subst he0
        exact hJ
    · refine ev_iff hc 1 (pc' := 59) (L' := [some (.inr (.inr 187)), some (.inl p1), some (.inl l2_1), some (.inl l3_2)]) (S' := []) (σ' := (SH L0, D)) (fun _ _ => rfl) ?_
      have he0 := Option.some.inj hv
      subst he0
      exact hJ
  · refine ev_iff hc 1 (pc' := 65) (L' := [some (.inr (.inr 187)), some (.inl p1), some (.inl l2_1), some (.inl l3_2)]) (S' := []) (σ' := (SH L0, D)) (fun _ _ => rfl) ?_
    cases hb
    exact hK0 (some (.inl l3_2))
set_option maxRecDepth 100000 in
set_option maxHeartbeats 4000000 in
theorem e_X12_takesArcs (L0 d : Nat) (hd : 4 ≤ d) {p1 : Int} {D : DT} {t0 : DT} (h : m_X12_takesArcs p1 D = some t0) : Ret mtab d 183 [.inr (.inr 187), .inl p1] (SH L0, D) (none, (SH L0, t0)) := by
  obtain ⟨d, rfl⟩ : ∃ e, d = e + 1 := ⟨d - 1, by omega⟩
  refine Ret.of (code := k_X12_takesArcs) (ml := 6) rfl ?_
  show EvF mtab d k_X12_takesArcs 0 [some (.inr (.inr 187)), some (.inl p1), none, none, none, none] [] (SH L0, D) (none, (SH L0, t0))
  unfold m_X12_takesArcs at h
  obtain ⟨r, hr, h⟩ := bnd h
  have hX : (fun (r : DT) => ∀ (o4 : Option (Sum Int Nat)), EvF mtab d k_X12_takesArcs 21 [some (.inr (.inr 187)), some (.inl p1), dv o4, none, none, none] [] (SH L0, r) (none, (SH L0, t0))) r := by
    obtain ⟨D5, hre⟩ : ∃ q, q = r := ⟨r, rfl⟩
    subst hre
    intro o4
    show EvF mtab d k_X12_takesArcs 21 [some (.inr (.inr 187)), some (.inl p1), dv o4, none, none, none] [] (SH L0, D5) (none, (SH L0, t0))
    obtain ⟨x6, hx, h⟩ := bnd h
    refine ev_call (e_X12_nextByCount L0 d (by omega) hx) 3 (pc' := 26) (L' := [some (.inr (.inr 187)), some (.inl p1), dv o4, none, none, none]) (S' := []) (fun _ _ => rfl) ?_
    obtain ⟨r, hr, h⟩ := bnd h
    have hX : (fun (r : DT) => ∀ (o37 : Option (Sum Int Nat)) (o38 : Option (Sum Int Nat)) (o39 : Option (Sum Int Nat)) (o40 : Option (Sum Int Nat)), EvF mtab d k_X12_takesArcs 183 [some (.inr (.inr 187)), some (.inl p1), dv o37, dv o38, dv o39, dv o40] [] (SH L0, r) (none, (SH L0, t0))) r := by
      obtain ⟨D41, hre⟩ : ∃ q, q = r := ⟨r, rfl⟩
      subst hre
      intro o37 o38 o39 o40
      show EvF mtab d k_X12_takesArcs 183 [some (.inr (.inr 187)), some (.inl p1), dv o37, dv o38, dv o39, dv o40] [] (SH L0, D41) (none, (SH L0, t0))
      cases h
      exact ev_ret 1 (fun _ _ => rfl)
    clear h
    refine ev_go 1 (pc' := 27) (L' := [some (.inr (.inr 187)), some (.inl p1), some (.inl x6), none, none, none]) (S' := []) (σ' := (SH L0, D5)) (fun _ _ => rfl) ?_
    refine loop_ind (P := fun s => ∀ (o8 : Option (Sum Int Nat)) (o9 : Option (Sum Int Nat)) (o10 : Option (Sum Int Nat)), EvF mtab d k_X12_takesArcs 27 [some (.inr (.inr 187)), some (.inl p1), some (.inl s.1), dv o8, dv o9, dv o10] [] (SH L0, s.2) (none, (SH L0, t0))) (X := fun r => ∀ (o37 : Option (Sum Int Nat)) (o38 : Option (Sum Int Nat)) (o39 : Option (Sum Int Nat)) (o40 : Option (Sum Int Nat)), EvF mtab d k_X12_takesArcs 183 [some (.inr (.inr 187)), some (.inl p1), dv o37, dv o38, dv o39, dv o40] [] (SH L0, r) (none, (SH L0, t0))) hr hX ?_ none none none
    clear hr hX
    intro s t hb hK0
    obtain ⟨l2_7, D11⟩ := s
    intro o8 o9 o10
    show EvF mtab d k_X12_takesArcs 27 [some (.inr (.inr 187)), some (.inl p1), some (.inl l2_7), dv o8, dv o9, dv o10] [] (SH L0, D11) (none, (SH L0, t0))
    unfold b_X12_takesArcs_27 at hb
    rcases ite_or hb with ⟨hc, hb⟩ | ⟨hc, hb⟩
    · refine ev_ift hc 2 (pc' := 183) (L' := [some (.inr (.inr 187)), some (.inl p1), some (.inl l2_7), dv o8, dv o9, dv o10]) (S' := []) (σ' := (SH L0, D11)) (fun _ _ => rfl) ?_
      cases hb
      exact hK0 (some (.inl l2_7)) o8 o9 o10
    · refine ev_iff hc 2 (pc' := 31) (L' := [some (.inr (.inr 187)), some (.inl p1), some (.inl l2_7), dv o8, dv o9, dv o10]) (S' := []) (σ' := (SH L0, D11)) (fun _ _ => rfl) ?_
      obtain ⟨x12, hx, hb⟩ := bnd hb
      obtain ⟨D13, hy, hb⟩ := bnd hb
      refine ev_bind2 (Y := fun x12 => awr D11 194 88 l2_7 x12) hx hy 5 (pc' := 38) (L' := fun x12 D13 => [some (.inr (.inr 187)), some (.inl p1), some (.inl l2_7), dv o8, dv o9, dv o10]) (S' := fun x12 D13 => []) (σ' := fun x12 D13 => (SH L0, D13)) (fun _ _ => rfl) ?_
      obtain ⟨x14, hx, hb⟩ := bnd hb
      refine ev_bind hx 9 (pc' := 53) (L' := fun x14 => [some (.inr (.inr 187)), some (.inl p1), some (.inl l2_7), dv o8, dv o9, dv o10]) (S' := fun x14 => [.inl x14, .inl l2_7, .inr (.inr 189)]) (σ' := fun x14 => (SH L0, D13)) (fun _ _ => rfl) ?_
      obtain ⟨D15, hx, hb⟩ := bnd hb
      refine ev_bind hx 1 (pc' := 54) (L' := fun D15 => [some (.inr (.inr 187)), some (.inl p1), some (.inl l2_7), dv o8, dv o9, dv o10]) (S' := fun D15 => []) (σ' := fun D15 => (SH L0, D15)) (fun _ _ => rfl) ?_
      obtain ⟨x16, hx, hb⟩ := bnd hb
      refine ev_bind hx 8 (pc' := 68) (L' := fun x16 => [some (.inr (.inr 187)), some (.inl p1), some (.inl l2_7), dv o8, dv o9, dv o10]) (S' := fun x16 => [.inl x16, .inr (.inr 191)]) (σ' := fun x16 => (SH L0, D15)) (fun _ _ => rfl) ?_
      obtain ⟨x17, hx, hb⟩ := bnd hb
      refine ev_call (e_X12_at L0 d (by omega) hx) 1 (pc' := 71) (L' := [some (.inr (.inr 187)), some (.inl p1), some (.inl l2_7), dv o8, dv o9, dv o10]) (S' := [.inr (.inr 191)]) (fun _ _ => rfl) ?_
      obtain ⟨x18, hx, hb⟩ := bnd hb
      refine ev_bind hx 1 (pc' := 72) (L' := fun x18 => [some (.inr (.inr 187)), some (.inl p1), some (.inl l2_7), dv o8, dv o9, dv o10]) (S' := fun x18 => [.inl x18]) (σ' := fun x18 => (SH L0, D15)) (fun _ _ => rfl) ?_
      obtain ⟨x19, hx, hb⟩ := bnd hb
      refine ev_bind hx 9 (pc' := 87) (L' := fun x19 => [some (.inr (.inr 187)), some (.inl p1), some (.inl l2_7), some (.inl x18), dv o9, dv o10]) (S' := fun x19 => [.inl x19, .inr (.inr 191)]) (σ' := fun x19 => (SH L0, D15)) (fun _ _ => rfl) ?_
      obtain ⟨x20, hx, hb⟩ := bnd hb
      refine ev_call (e_X12_at L0 d (by omega) hx) 1 (pc' := 90) (L' := [some (.inr (.inr 187)), some (.inl p1), some (.inl l2_7), some (.inl x18), dv o9, dv o10]) (S' := [.inr (.inr 191)]) (fun _ _ => rfl) ?_
      obtain ⟨x21, hx, hb⟩ := bnd hb
      refine ev_bind hx 1 (pc' := 91) (L' := fun x21 => [some (.inr (.inr 187)), some (.inl p1), some (.inl l2_7), some (.inl x18), dv o9, dv o10]) (S' := fun x21 => [.inl x21]) (σ' := fun x21 => (SH L0, D15)) (fun _ _ => rfl) ?_
      obtain ⟨t22, hv, hb⟩ := bnd hb
      have hJ : EvF mtab d k_X12_takesArcs 109 [some (.inr (.inr 187)), some (.inl p1), some (.inl l2_7), some (.inl x18), some (.inl x21), dv o10] [.inl t22, .inl l2_7, .inr (.inr 192)] (SH L0, D15) (none, (SH L0, t0)) := by
        obtain ⟨x23, hx, hb⟩ := bnd hb
        obtain ⟨D24, hy, hb⟩ := bnd hb
        refine ev_bind2 (Y := fun x23 => awr D15 192 88 l2_7 x23) hx hy 1 (pc' := 110) (L' := fun x23 D24 => [some (.inr (.inr 187)), some (.inl p1), some (.inl l2_7), some (.inl x18), some (.inl x21), dv o10]) (S' := fun x23 D24 => []) (σ' := fun x23 D24 => (SH L0, D24)) (fun _ _ => rfl) ?_
        obtain ⟨x25, hx, hb⟩ := bnd hb
        refine ev_bind hx 7 (pc' := 121) (L' := fun x25 => [some (.inr (.inr 187)), some (.inl p1), some (.inl l2_7), some (.inl x18), some (.inl x21), dv o10]) (S' := fun x25 => [.inl x25, .inl l2_7, .inr (.inr 193)]) (σ' := fun x25 => (SH L0, D24)) (fun _ _ => rfl) ?_
        obtain ⟨x26, hx, hb⟩ := bnd hb
        obtain ⟨D27, hy, hb⟩ := bnd hb
        refine ev_bind2 (Y := fun x26 => awr D24 193 88 l2_7 x26) hx hy 1 (pc' := 122) (L' := fun x26 D27 => [some (.inr (.inr 187)), some (.inl p1), some (.inl l2_7), some (.inl x18), some (.inl x21), dv o10]) (S' := fun x26 D27 => []) (σ' := fun x26 D27 => (SH L0, D27)) (fun _ _ => rfl) ?_
        obtain ⟨r, hr, hb⟩ := bnd hb
        have hX : (fun (r : DT) => ∀ (o34 : Option (Sum Int Nat)), EvF mtab d k_X12_takesArcs 174 [some (.inr (.inr 187)), some (.inl p1), some (.inl l2_7), some (.inl x18), some (.inl x21), dv o34] [] (SH L0, r) (none, (SH L0, t0))) r := by
          obtain ⟨D35, hre⟩ : ∃ q, q = r := ⟨r, rfl⟩
          subst hre
          intro o34
          show EvF mtab d k_X12_takesArcs 174 [some (.inr (.inr 187)), some (.inl p1), some (.inl l2_7), some (.inl x18), some (.inl x21), dv o34] [] (SH L0, D35) (none, (SH L0, t0))
          obtain ⟨x36, hx, hb⟩ := bnd hb
          refine ev_call (e_X12_nextByCount L0 d (by omega) hx) 3 (pc' := 179) (L' := [some (.inr (.inr 187)), some (.inl p1), some (.inl l2_7), some (.inl x18), some (.inl x21), dv o34]) (S' := []) (fun _ _ => rfl) ?_
          cases hb
          exact ev_go 2 (pc' := 27) (L' := [some (.inr (.inr 187)), some (.inl p1), some (.inl x36), some (.inl x18), some (.inl x21), dv o34]) (S' := []) (σ' := (SH L0, D35)) (fun _ _ => rfl) (hK0 (some (.inl x18)) (some (.inl x21)) o34)
        clear hb
        refine ev_go 2 (pc' := 125) (L' := [some (.inr (.inr 187)), some (.inl p1), some (.inl l2_7), some (.inl x18), some (.inl x21), some (.inl 0)]) (S' := []) (σ' := (SH L0, D27)) (fun _ _ => rfl) ?_
        refine loop_ind (P := fun s => EvF mtab d k_X12_takesArcs 125 [some (.inr (.inr 187)), some (.inl p1), some (.inl l2_7), some (.inl x18), some (.inl x21), some (.inl s.1)] [] (SH L0, s.2) (none, (SH L0, t0))) (X := fun r => ∀ (o34 : Option (Sum Int Nat)), EvF mtab d k_X12_takesArcs 174 [some (.inr (.inr 187)), some (.inl p1), some (.inl l2_7), some (.inl x18), some (.inl x21), dv o34] [] (SH L0, r) (none, (SH L0, t0))) hr hX ?_
        clear hr hX
        intro s t hb hK1
        obtain ⟨l5_28, D29⟩ := s
        show EvF mtab d k_X12_takesArcs 125 [some (.inr (.inr 187)), some (.inl p1), some (.inl l2_7), some (.inl x18), some (.inl x21), some (.inl l5_28)] [] (SH L0, D29) (none, (SH L0, t0))
        unfold b_X12_takesArcs_125 at hb
        rcases ite_or hb with ⟨hc, hb⟩ | ⟨hc, hb⟩
        · refine ev_ift hc 3 (pc' := 174) (L' := [some (.inr (.inr 187)), some (.inl p1), some (.inl l2_7), some (.inl x18), some (.inl x21), some (.inl l5_28)]) (S' := []) (σ' := (SH L0, D29)) (fun _ _ => rfl) ?_
          cases hb
          exact hK1 (some (.inl l5_28))
        · refine ev_iff hc 3 (pc' := 132) (L' := [some (.inr (.inr 187)), some (.inl p1), some (.inl l2_7), some (.inl x18), some (.inl x21), some (.inl l5_28)]) (S' := []) (σ' := (SH L0, D29)) (fun _ _ => rfl) ?_
          rcases ite_or hb with ⟨hc, hb⟩ | ⟨hc, hb⟩
          · refine ev_ift hc 3 (pc' := 174) (L' := [some (.inr (.inr 187)), some (.inl p1), some (.inl l2_7), some (.inl x18), some (.inl x21), some (.inl l5_28)]) (S' := []) (σ' := (SH L0, D29)) (fun _ _ => rfl) ?_
            cases hb
            exact hK1 (some (.inl l5_28))
          · refine ev_iff hc 3 (pc' := 138) (L' := [some (.inr (.inr 187)), some (.inl p1), some (.inl l2_7), some (.inl x18), some (.inl x21), some (.inl l5_28)]) (S' := []) (σ' := (SH L0, D29)) (fun _ _ => rfl) ?_
            obtain ⟨x30, hx, hb⟩ := bnd hb
            refine ev_bind hx 7 (pc' := 151) (L' := fun x30 => [some (.inr (.inr 187)), some (.inl p1), some (.inl l2_7), some (.inl x18), some (.inl x21), some (.inl l5_28)]) (S' := fun x30 => [.inl x30, .inl l5_28, .inr (.inr 191)]) (σ' := fun x30 => (SH L0, D29)) (fun _ _ => rfl) ?_
            obtain ⟨t32, hv, hb⟩ := bnd hb
            have hJ : EvF mtab d k_X12_takesArcs 167 [some (.inr (.inr 187)), some (.inl p1), some (.inl l2_7), some (.inl x18), some (.inl x21), some (.inl l5_28)] [.inl t32, .inl l5_28, .inr (.inr 191)] (SH L0, D29) (none, (SH L0, t0)) := by
              obtain ⟨D33, hx, hb⟩ := bnd hb
              refine ev_bind hx 1 (pc' := 168) (L' := fun D33 => [some (.inr (.inr 187)), some (.inl p1), some (.inl l2_7), some (.inl x18), some (.inl x21), some (.inl l5_28)]) (S' := fun D33 => []) (σ' := fun D33 => (SH L0, D33)) (fun _ _ => rfl) ?_
              cases hb
              exact ev_go 2 (pc' := 125) (L' := [some (.inr (.inr 187)), some (.inl p1), some (.inl l2_7), some (.inl x18), some (.inl x21), some (.inl (w32 (l5_28 + 1)))]) (S' := []) (σ' := (SH L0, D33)) (fun _ _ => rfl) hK1
            clear hb
            rcases ite_or hv with ⟨hc, hv⟩ | ⟨hc, hv⟩
            · refine ev_ift hc 2 (pc' := 156) (L' := [some (.inr (.inr 187)), some (.inl p1), some (.inl l2_7), some (.inl x18), some (.inl x21), some (.inl l5_28)]) (S' := [.inl l5_28, .inr (.inr 191)]) (σ' := (SH L0, D29)) (fun _ _ => rfl) ?_
              have he0 := Option.some.inj hv
              subst he0
              exact ev_go 2 (pc' := 167) (L' := [some (.inr (.inr 187)), some (.inl p1), some (.inl l2_7), some (.inl x18), some (.inl x21), some (.inl l5_28)]) (S' := [.inl x18, .inl l5_28, .inr (.inr 191)]) (σ' := (SH L0, D29)) (fun _ _ => rfl) hJ
            · refine ev_iff hc 2 (pc' := 160) (L' := [some (.inr (.inr 187)), some (.inl p1), some (.inl l2_7), some (.inl x18), some (.inl x21), some (.inl l5_28)]) (S' := [.inl l5_28, .inr (.inr 191)]) (σ' := (SH L0, D29)) (fun _ _ => rfl) ?_
              obtain ⟨x31, hx, hv⟩ := bnd hv
              refine ev_bind hx 4 (pc' := 167) (L' := fun x31 => [some (.inr (.inr 187)), some (.inl p1), some (.inl l2_7), some (.inl x18), some (.inl x21), some (.inl l5_28)]) (S' := fun x31 => [.inl x31, .inl l5_28, .inr (.inr 191)]) (σ' := fun x31 => (SH L0, D29)) (fun _ _ => rfl) ?_
              have he0 := Option.some.inj hv
              subst he0
              exact hJ
      clear hb
      rcases ite_or hv with ⟨hc, hv⟩ | ⟨hc, hv⟩
      · refine ev_ift hc 7 (pc' := 108) (L' := [some (.inr (.inr 187)), some (.inl p1), some (.inl l2_7), some (.inl x18), some (.inl x21), dv o10]) (S' := [.inl l2_7, .inr (.inr 192)]) (σ' := (SH L0, D15)) (fun _ _ => rfl) ?_
        have he0 := Option.some.inj hv
        subst he0
        exact ev_go 1 (pc' := 109) (L' := [some (.inr (.inr 187)), some (.inl p1), some (.inl l2_7), some (.inl x18), some (.inl x21), dv o10]) (S' := [.inl 0, .inl l2_7, .inr (.inr 192)]) (σ' := (SH L0, D15)) (fun _ _ => rfl) hJ
      · refine ev_iff hc 7 (pc' := 104) (L' := [some (.inr (.inr 187)), some (.inl p1), some (.inl l2_7), some (.inl x18), some (.inl x21), dv o10]) (S' := [.inl l2_7, .inr (.inr 192)]) (σ' := (SH L0, D15)) (fun _ _ => rfl) ?_
        have he0 := Option.some.inj hv
        subst he0
        exact ev_go 2 (pc' := 109) (L' := [some (.inr (.inr 187)), some (.inl p1), some (.inl l2_7), some (.inl x18), some (.inl x21), dv o10]) (S' := [.inl 1, .inl l2_7, .inr (.inr 192)]) (σ' := (SH L0, D15)) (fun _ _ => rfl) hJ
  clear h
  refine ev_go 2 (pc' := 2) (L' := [some (.inr (.inr 187)), some (.inl p1), some (.inl 0), none, none, none]) (S' := []) (σ' := (SH L0, D)) (fun _ _ => rfl) ?_
  refine loop_ind (P := fun s => EvF mtab d k_X12_takesArcs 2 [some (.inr (.inr 187)), some (.inl p1), some (.inl s.1), none, none, none] [] (SH L0, s.2) (none, (SH L0, t0))) (X := fun r => ∀ (o4 : Option (Sum Int Nat)), EvF mtab d k_X12_takesArcs 21 [some (.inr (.inr 187)), some (.inl p1), dv o4, none, none, none] [] (SH L0, r) (none, (SH L0, t0))) hr hX ?_
  clear hr hX
  intro s t hb hK0
  obtain ⟨l2_1, D2⟩ := s
  show EvF mtab d k_X12_takesArcs 2 [some (.inr (.inr 187)), some (.inl p1), some (.inl l2_1), none, none, none] [] (SH L0, D2) (none, (SH L0, t0))
  unfold b_X12_takesArcs_2 at hb
  rcases ite_or hb with ⟨hc, hb⟩ | ⟨hc, hb⟩
  · refine ev_ift hc 3 (pc' := 21) (L' := [some (.inr (.inr 187)), some (.inl p1), some (.inl l2_1), none, none, none]) (S' := []) (σ' := (SH L0, D2)) (fun _ _ => rfl) ?_
    cases hb
    exact hK0 (some (.inl l2_1))
  · refine ev_iff hc 3 (pc' := 8) (L' := [some (.inr (.inr 187)), some (.inl p1), some (.inl l2_1), none, none, none]) (S' := []) (σ' := (SH L0, D2)) (fun _ _ => rfl) ?_
    obtain ⟨D3, hx, hb⟩ := bnd hb
    refine ev_bind hx 5 (pc' := 15) (L' := fun D3 => [some (.inr (.inr 187)), some (.inl p1), some (.inl l2_1), none, none, none]) (S' := fun D3 => []) (σ' := fun D3 => (SH L0, D3)) (fun _ _ => rfl) ?_
    cases hb
    exact ev_go 2 (pc' := 2) (L' := [some (.inr (.inr 187)), some (.inl p1), some (.inl (w32 (l2_1 + 1))), none, none, none]) (S' := []) (σ' := (SH L0, D3)) (fun _ _ => rfl) hK0
set_option maxRecDepth 100000 in
set_option maxHeartbeats 4000000 in
theorem e_X12_openAt (L0 d : Nat) (hd : 2 ≤ d) {p1 : Int} {D : DT} {t0 : Int} (h : m_X12_openAt p1 D = some t0) : Ret mtab d 184 [.inr (.inr 187), .inl p1] (SH L0, D) (some (.inl t0), (SH L0, D)) := by
  obtain ⟨d, rfl⟩ : ∃ e, d = e + 1 := ⟨d - 1, by omega⟩
  refine Ret.of (code := k_X12_openAt) (ml := 4) rfl ?_
  show EvF mtab d k_X12_openAt 0 [some (.inr (.inr 187)), some (.inl p1), none, none] [] (SH L0, D) (some (.inl t0), (SH L0, D))
  unfold m_X12_openAt at h
  obtain ⟨r, hr, h⟩ := bnd h
  have hX : (fun (r : (Unit ⊕ Int)) => match r with | .inl r => (∀ (o7 : Option (Sum Int Nat)) (o8 : Option (Sum Int Nat)), EvF mtab d k_X12_openAt 56 [some (.inr (.inr 187)), some (.inl p1), dv o7, dv o8] [] (SH L0, D) (some (.inl t0), (SH L0, D))) | .inr r => (∀ (o10 : Option (Sum Int Nat)), EvF mtab d k_X12_openAt 66 [some (.inr (.inr 187)), some (.inl p1), some (.inl r), dv o10] [] (SH L0, D) (some (.inl t0), (SH L0, D)))) r := by
    rcases r with r | r
    · skip
      intro o7 o8
      show EvF mtab d k_X12_openAt 56 [some (.inr (.inr 187)), some (.inl p1), dv o7, dv o8] [] (SH L0, D) (some (.inl t0), (SH L0, D))
      cases h
      exact ev_ret 2 (fun _ _ => rfl)
    obtain ⟨l2_9, hre⟩ : ∃ q, q = r := ⟨r, rfl⟩
    subst hre
    intro o10
    show EvF mtab d k_X12_openAt 66 [some (.inr (.inr 187)), some (.inl p1), some (.inl l2_9), dv o10] [] (SH L0, D) (some (.inl t0), (SH L0, D))
    cases h
    exact ev_ret 2 (fun _ _ => rfl)
  clear h
  refine ev_go 4 (pc' := 4) (L' := [some (.inr (.inr 187)), some (.inl p1), some (.inl (-1)), some (.inl 0)]) (S' := []) (σ' := (SH L0, D)) (fun _ _ => rfl) ?_
  refine loop_ind (P := fun s => EvF mtab d k_X12_openAt 4 [some (.inr (.inr 187)), some (.inl p1), some (.inl s.1), some (.inl s.2)] [] (SH L0, D) (some (.inl t0), (SH L0, D))) (X := fun r => match r with | .inl r => (∀ (o7 : Option (Sum Int Nat)) (o8 : Option (Sum Int Nat)), EvF mtab d k_X12_openAt 56 [some (.inr (.inr 187)), some (.inl p1), dv o7, dv o8] [] (SH L0, D) (some (.inl t0), (SH L0, D))) | .inr r => (∀ (o10 : Option (Sum Int Nat)), EvF mtab d k_X12_openAt 66 [some (.inr (.inr 187)), some (.inl p1), some (.inl r), dv o10] [] (SH L0, D) (some (.inl t0), (SH L0, D)))) hr hX ?_
  clear hr hX
  intro s t hb hK0
  obtain ⟨l2_1, l3_2⟩ := s
  show EvF mtab d k_X12_openAt 4 [some (.inr (.inr 187)), some (.inl p1), some (.inl l2_1), some (.inl l3_2)] [] (SH L0, D) (some (.inl t0), (SH L0, D))
  unfold b_X12_openAt_4 at hb
  obtain ⟨x3, hx, hb⟩ := bnd hb
  refine ev_call (e_X12_arcs L0 d (by omega) hx) 3 (pc' := 9) (L' := [some (.inr (.inr 187)), some (.inl p1), some (.inl l2_1), some (.inl l3_2)]) (S' := [.inl l3_2]) (fun _ _ => rfl) ?_
  rcases ite_or hb with ⟨hc, hb⟩ | ⟨hc, hb⟩
  · refine ev_ift hc 1 (pc' := 12) (L' := [some (.inr (.inr 187)), some (.inl p1), some (.inl l2_1), some (.inl l3_2)]) (S' := []) (σ' := (SH L0, D)) (fun _ _ => rfl) ?_
    obtain ⟨x4, hx, hb⟩ := bnd hb
    refine ev_bind hx 4 (pc' := 18) (L' := fun x4 => [some (.inr (.inr 187)), some (.inl p1), some (.inl l2_1), some (.inl l3_2)]) (S' := fun x4 => [.inl x4]) (σ' := fun x4 => (SH L0, D)) (fun _ _ => rfl) ?_
    rcases ite_or hb with ⟨hc, hb⟩ | ⟨hc, hb⟩
    · refine ev_ift hc 1 (pc' := 60) (L' := [some (.inr (.inr 187)), some (.inl p1), some (.inl l2_1), some (.inl l3_2)]) (S' := []) (σ' := (SH L0, D)) (fun _ _ => rfl) ?_
      cases hb
      exact ev_go 2 (pc' := 4) (L' := [some (.inr (.inr 187)), some (.inl p1), some (.inl l2_1), some (.inl (w32 (l3_2 + 1)))]) (S' := []) (σ' := (SH L0, D)) (fun _ _ => rfl) hK0
    · refine ev_iff hc 1 (pc' := 21) (L' := [some (.inr (.inr 187)), some (.inl p1), some (.inl l2_1), some (.inl l3_2)]) (S' := []) (σ' := (SH L0, D)) (fun _ _ => rfl) ?_
      obtain ⟨x5, hx, hb⟩ := bnd hb
      refine ev_bind hx 6 (pc' := 31) (L' := fun x5 => [some (.inr (.inr 187)), some (.inl p1), some (.inl l2_1), some (.inl l3_2)]) (S' := fun x5 => [.inl x5]) (σ' := fun x5 => (SH L0, D)) (fun _ _ => rfl) ?_
      rcases ite_or hb with ⟨hc, hb⟩ | ⟨hc, hb⟩
      · refine ev_ift hc 2 (pc' := 52) (L' := [some (.inr (.inr 187)), some (.inl p1), some (.inl l2_1), some (.inl l3_2)]) (S' := []) (σ' := (SH L0, D)) (fun _ _ => rfl) ?_
        rcases ite_or hb with ⟨hc, hb⟩ | ⟨hc, hb⟩
        · refine ev_ift hc 2 (pc' := 58) (L' := [some (.inr (.inr 187)), some (.inl p1), some (.inl l2_1), some (.inl l3_2)]) (S' := []) (σ' := (SH L0, D)) (fun _ _ => rfl) ?_
          cases hb
          exact ev_go 4 (pc' := 4) (L' := [some (.inr (.inr 187)), some (.inl p1), some (.inl l3_2), some (.inl (w32 (l3_2 + 1)))]) (S' := []) (σ' := (SH L0, D)) (fun _ _ => rfl) hK0
        · refine ev_iff hc 2 (pc' := 56) (L' := [some (.inr (.inr 187)), some (.inl p1), some (.inl l2_1), some (.inl l3_2)]) (S' := []) (σ' := (SH L0, D)) (fun _ _ => rfl) ?_
          cases hb
          exact hK0 (some (.inl l2_1)) (some (.inl l3_2))
      · refine ev_iff hc 2 (pc' := 35) (L' := [some (.inr (.inr 187)), some (.inl p1), some (.inl l2_1), some (.inl l3_2)]) (S' := []) (σ' := (SH L0, D)) (fun _ _ => rfl) ?_
        obtain ⟨x6, hx, hb⟩ := bnd hb
        refine ev_bind hx 6 (pc' := 45) (L' := fun x6 => [some (.inr (.inr 187)), some (.inl p1), some (.inl l2_1), some (.inl l3_2)]) (S' := fun x6 => [.inl x6]) (σ' := fun x6 => (SH L0, D)) (fun _ _ => rfl) ?_
        rcases ite_or hb with ⟨hc, hb⟩ | ⟨hc, hb⟩
        · refine ev_ift hc 2 (pc' := 52) (L' := [some (.inr (.inr 187)), some (.inl p1), some (.inl l2_1), some (.inl l3_2)]) (S' := []) (σ' := (SH L0, D)) (fun _ _ => rfl) ?_
          rcases ite_or hb with ⟨hc, hb⟩ | ⟨hc, hb⟩
          · refine ev_ift hc 2 (pc' := 58) (L' := [some (.inr (.inr 187)), some (.inl p1), some (.inl l2_1), some (.inl l3_2)]) (S' := []) (σ' := (SH L0, D)) (fun _ _ => rfl) ?_
            cases hb
            exact ev_go 4 (pc' := 4) (L' := [some (.inr (.inr 187)), some (.inl p1), some (.inl l3_2), some (.inl (w32 (l3_2 + 1)))]) (S' := []) (σ' := (SH L0, D)) (fun _ _ => rfl) hK0
          · refine ev_iff hc 2 (pc' := 56) (L' := [some (.inr (.inr 187)), some (.inl p1), some (.inl l2_1), some (.inl l3_2)]) (S' := []) (σ' := (SH L0, D)) (fun _ _ => rfl) ?_
            cases hb
            exact hK0 (some (.inl l2_1)) (some (.inl l3_2))
        · refine ev_iff hc 2 (pc' := 49) (L' := [some (.inr (.inr 187)), some (.inl p1), some (.inl l2_1), some (.inl l3_2)]) (S' := []) (σ' := (SH L0, D)) (fun _ _ => rfl) ?_
          cases hb
          exact ev_go 3 (pc' := 4) (L' := [some (.inr (.inr 187)), some (.inl p1), some (.inl l2_1), some (.inl (w32 (l3_2 + 1)))]) (S' := []) (σ' := (SH L0, D)) (fun _ _ => rfl) hK0
  · refine ev_iff hc 1 (pc' := 66) (L' := [some (.inr (.inr 187)), some (.inl p1), some (.inl l2_1), some (.inl l3_2)]) (S' := []) (σ' := (SH L0, D)) (fun _ _ => rfl) ?_
    cases hb
    exact hK0 (some (.inl l3_2))
set_option maxRecDepth 100000 in
set_option maxHeartbeats 4000000 in
theorem e_X12_overAt (L0 d : Nat) (hd : 2 ≤ d) {p1 p2 : Int} {D : DT} {t0 : Int} (h : m_X12_overAt p1 p2 D = some t0) : Ret mtab d 185 [.inr (.inr 187), .inl p1, .inl p2] (SH L0, D) (some (.inl t0), (SH L0, D)) := by
  obtain ⟨d, rfl⟩ : ∃ e, d = e + 1 := ⟨d - 1, by omega⟩
  refine Ret.of (code := k_X12_overAt) (ml := 5) rfl ?_
  show EvF mtab d k_X12_overAt 0 [some (.inr (.inr 187)), some (.inl p1), some (.inl p2), none, none] [] (SH L0, D) (some (.inl t0), (SH L0, D))
  unfold m_X12_overAt at h
  obtain ⟨r, hr, h⟩ := bnd h
  have hX : (fun (r : Int) => ∀ (o12 : Option (Sum Int Nat)), EvF mtab d k_X12_overAt 82 [some (.inr (.inr 187)), some (.inl p1), some (.inl p2), some (.inl r), dv o12] [] (SH L0, D) (some (.inl t0), (SH L0, D))) r := by
    obtain ⟨l3_11, hre⟩ : ∃ q, q = r := ⟨r, rfl⟩
    subst hre
    intro o12
    show EvF mtab d k_X12_overAt 82 [some (.inr (.inr 187)), some (.inl p1), some (.inl p2), some (.inl l3_11), dv o12] [] (SH L0, D) (some (.inl t0), (SH L0, D))
    cases h
    exact ev_ret 2 (fun _ _ => rfl)
  clear h
  refine ev_go 4 (pc' := 5) (L' := [some (.inr (.inr 187)), some (.inl p1), some (.inl p2), some (.inl 0), some (.inl 0)]) (S' := []) (σ' := (SH L0, D)) (fun _ _ => rfl) ?_
  refine loop_ind (P := fun s => EvF mtab d k_X12_overAt 5 [some (.inr (.inr 187)), some (.inl p1), some (.inl p2), some (.inl s.1), some (.inl s.2)] [] (SH L0, D) (some (.inl t0), (SH L0, D))) (X := fun r => ∀ (o12 : Option (Sum Int Nat)), EvF mtab d k_X12_overAt 82 [some (.inr (.inr 187)), some (.inl p1), some (.inl p2), some (.inl r), dv o12] [] (SH L0, D) (some (.inl t0), (SH L0, D))) hr hX ?_
  clear hr hX
  intro s t hb hK0
  obtain ⟨l3_1, l4_2⟩ := s
  show EvF mtab d k_X12_overAt 5 [some (.inr (.inr 187)), some (.inl p1), some (.inl p2), some (.inl l3_1), some (.inl l4_2)] [] (SH L0, D) (some (.inl t0), (SH L0, D))
  unfold b_X12_overAt_5 at hb
  obtain ⟨x3, hx, hb⟩ := bnd hb
  refine ev_call (e_X12_arcs L0 d (by omega) hx) 3 (pc' := 11) (L' := [some (.inr (.inr 187)), some (.inl p1), some (.inl p2), some (.inl l3_1), some (.inl l4_2)]) (S' := [.inl l4_2]) (fun _ _ => rfl) ?_
  rcases ite_or hb with ⟨hc, hb⟩ | ⟨hc, hb⟩
  · refine ev_ift hc 1 (pc' := 14) (L' := [some (.inr (.inr 187)), some (.inl p1), some (.inl p2), some (.inl l3_1), some (.inl l4_2)]) (S' := []) (σ' := (SH L0, D)) (fun _ _ => rfl) ?_
    obtain ⟨l3_10, hv, hb⟩ := bnd hb
    have hJ : EvF mtab d k_X12_overAt 76 [some (.inr (.inr 187)), some (.inl p1), some (.inl p2), some (.inl l3_10), some (.inl l4_2)] [] (SH L0, D) (some (.inl t0), (SH L0, D)) := by
      cases hb
      exact ev_go 2 (pc' := 5) (L' := [some (.inr (.inr 187)), some (.inl p1), some (.inl p2), some (.inl l3_10), some (.inl (w32 (l4_2 + 1)))]) (S' := []) (σ' := (SH L0, D)) (fun _ _ => rfl) hK0
    clear hb
    rcases ite_or hv with ⟨hc, hv⟩ | ⟨hc, hv⟩
    · refine ev_ift hc 3 (pc' := 76) (L' := [some (.inr (.inr 187)), some (.inl p1), some (.inl p2), some (.inl l3_1), some (.inl l4_2)]) (S' := []) (σ' := (SH L0, D)) (fun _ _ => rfl) ?_
      have he0 := Option.some.inj hv
      subst he0
      exact hJ
    · refine ev_iff hc 3 (pc' := 20) (L' := [some (.inr (.inr 187)), some (.inl p1), some (.inl p2), some (.inl l3_1), some (.inl l4_2)]) (S' := []) (σ' := (SH L0, D)) (fun _ _ => rfl) ?_
      obtain ⟨x4, hx, hv⟩ := bnd hv
      refine ev_bind hx 7 (pc' := 32) (L' := fun x4 => [some (.inr (.inr 187)), some (.inl p1), some (.inl p2), some (.inl l3_1), some (.inl l4_2)]) (S' := fun x4 => [.inl x4, .inl l3_1]) (σ' := fun x4 => (SH L0, D)) (fun _ _ => rfl) ?_
      obtain ⟨t6, hv, hv⟩ := bnd hv
      have hJ : EvF mtab d k_X12_overAt 47 [some (.inr (.inr 187)), some (.inl p1), some (.inl p2), some (.inl l3_1), some (.inl l4_2)] [.inl t6, .inl l3_1] (SH L0, D) (some (.inl t0), (SH L0, D)) := by
        obtain ⟨x7, hx, hv⟩ := bnd hv
        refine ev_bind hx 6 (pc' := 58) (L' := fun x7 => [some (.inr (.inr 187)), some (.inl p1), some (.inl p2), some (.inl l3_1), some (.inl l4_2)]) (S' := fun x7 => [.inl x7, .inl t6, .inl l3_1]) (σ' := fun x7 => (SH L0, D)) (fun _ _ => rfl) ?_
        obtain ⟨t9, hv, hv⟩ := bnd hv
        have hJ : EvF mtab d k_X12_overAt 73 [some (.inr (.inr 187)), some (.inl p1), some (.inl p2), some (.inl l3_1), some (.inl l4_2)] [.inl t9, .inl t6, .inl l3_1] (SH L0, D) (some (.inl t0), (SH L0, D)) := by
          have he0 := Option.some.inj hv
          subst he0
          exact ev_go 3 (pc' := 76) (L' := [some (.inr (.inr 187)), some (.inl p1), some (.inl p2), some (.inl (w32 (l3_1 + (w32 (t6 - t9))))), some (.inl l4_2)]) (S' := []) (σ' := (SH L0, D)) (fun _ _ => rfl) hJ
        clear hv
        rcases ite_or hv with ⟨hc, hv⟩ | ⟨hc, hv⟩
        · refine ev_ift hc 2 (pc' := 62) (L' := [some (.inr (.inr 187)), some (.inl p1), some (.inl p2), some (.inl l3_1), some (.inl l4_2)]) (S' := [.inl t6, .inl l3_1]) (σ' := (SH L0, D)) (fun _ _ => rfl) ?_
          obtain ⟨x8, hx, hv⟩ := bnd hv
          refine ev_bind hx 4 (pc' := 69) (L' := fun x8 => [some (.inr (.inr 187)), some (.inl p1), some (.inl p2), some (.inl l3_1), some (.inl l4_2)]) (S' := fun x8 => [.inl x8, .inl t6, .inl l3_1]) (σ' := fun x8 => (SH L0, D)) (fun _ _ => rfl) ?_
          have he0 := Option.some.inj hv
          subst he0
          exact ev_go 1 (pc' := 73) (L' := [some (.inr (.inr 187)), some (.inl p1), some (.inl p2), some (.inl l3_1), some (.inl l4_2)]) (S' := [.inl x8, .inl t6, .inl l3_1]) (σ' := (SH L0, D)) (fun _ _ => rfl) hJ
        · refine ev_iff hc 2 (pc' := 72) (L' := [some (.inr (.inr 187)), some (.inl p1), some (.inl p2), some (.inl l3_1), some (.inl l4_2)]) (S' := [.inl t6, .inl l3_1]) (σ' := (SH L0, D)) (fun _ _ => rfl) ?_
          have he0 := Option.some.inj hv
          subst he0
          exact ev_go 1 (pc' := 73) (L' := [some (.inr (.inr 187)), some (.inl p1), some (.inl p2), some (.inl l3_1), some (.inl l4_2)]) (S' := [.inl 0, .inl t6, .inl l3_1]) (σ' := (SH L0, D)) (fun _ _ => rfl) hJ
      clear hv
      rcases ite_or hv with ⟨hc, hv⟩ | ⟨hc, hv⟩
      · refine ev_ift hc 2 (pc' := 36) (L' := [some (.inr (.inr 187)), some (.inl p1), some (.inl p2), some (.inl l3_1), some (.inl l4_2)]) (S' := [.inl l3_1]) (σ' := (SH L0, D)) (fun _ _ => rfl) ?_
        obtain ⟨x5, hx, hv⟩ := bnd hv
        refine ev_bind hx 4 (pc' := 43) (L' := fun x5 => [some (.inr (.inr 187)), some (.inl p1), some (.inl p2), some (.inl l3_1), some (.inl l4_2)]) (S' := fun x5 => [.inl x5, .inl l3_1]) (σ' := fun x5 => (SH L0, D)) (fun _ _ => rfl) ?_
        have he0 := Option.some.inj hv
        subst he0
        exact ev_go 1 (pc' := 47) (L' := [some (.inr (.inr 187)), some (.inl p1), some (.inl p2), some (.inl l3_1), some (.inl l4_2)]) (S' := [.inl x5, .inl l3_1]) (σ' := (SH L0, D)) (fun _ _ => rfl) hJ
      · refine ev_iff hc 2 (pc' := 46) (L' := [some (.inr (.inr 187)), some (.inl p1), some (.inl p2), some (.inl l3_1), some (.inl l4_2)]) (S' := [.inl l3_1]) (σ' := (SH L0, D)) (fun _ _ => rfl) ?_
        have he0 := Option.some.inj hv
        subst he0
        exact ev_go 1 (pc' := 47) (L' := [some (.inr (.inr 187)), some (.inl p1), some (.inl p2), some (.inl l3_1), some (.inl l4_2)]) (S' := [.inl 0, .inl l3_1]) (σ' := (SH L0, D)) (fun _ _ => rfl) hJ
  · refine ev_iff hc 1 (pc' := 82) (L' := [some (.inr (.inr 187)), some (.inl p1), some (.inl p2), some (.inl l3_1), some (.inl l4_2)]) (S' := []) (σ' := (SH L0, D)) (fun _ _ => rfl) ?_
    cases hb
    exact hK0 (some (.inl l4_2))
set_option maxRecDepth 100000 in
set_option maxHeartbeats 4000000 in
theorem e_X12_laysFlows (L0 d : Nat) (hd : 5 ≤ d) {D : DT} {t0 : DT} (h : m_X12_laysFlows  D = some t0) : Ret mtab d 186 [.inr (.inr 187)] (SH L0, D) (none, (SH L0, t0)) := by
  obtain ⟨d, rfl⟩ : ∃ e, d = e + 1 := ⟨d - 1, by omega⟩
  refine Ret.of (code := k_X12_laysFlows) (ml := 4) rfl ?_
  show EvF mtab d k_X12_laysFlows 0 [some (.inr (.inr 187)), none, none, none] [] (SH L0, D) (none, (SH L0, t0))
  unfold m_X12_laysFlows at h
  obtain ⟨r, hr, h⟩ := bnd h
  have hX : (fun (r : DT) => ∀ (o6 : Option (Sum Int Nat)), EvF mtab d k_X12_laysFlows 23 [some (.inr (.inr 187)), dv o6, none, none] [] (SH L0, r) (none, (SH L0, t0))) r := by
    obtain ⟨D7, hre⟩ : ∃ q, q = r := ⟨r, rfl⟩
    subst hre
    intro o6
    show EvF mtab d k_X12_laysFlows 23 [some (.inr (.inr 187)), dv o6, none, none] [] (SH L0, D7) (none, (SH L0, t0))
    obtain ⟨r, hr, h⟩ := bnd h
    have hX : (fun (r : DT) => ∀ (o12 : Option (Sum Int Nat)), EvF mtab d k_X12_laysFlows 44 [some (.inr (.inr 187)), dv o12, none, none] [] (SH L0, r) (none, (SH L0, t0))) r := by
      obtain ⟨D13, hre⟩ : ∃ q, q = r := ⟨r, rfl⟩
      subst hre
      intro o12
      show EvF mtab d k_X12_laysFlows 44 [some (.inr (.inr 187)), dv o12, none, none] [] (SH L0, D13) (none, (SH L0, t0))
      obtain ⟨r, hr, h⟩ := bnd h
      have hX : (fun (r : DT) => ∀ (o37 : Option (Sum Int Nat)) (o38 : Option (Sum Int Nat)) (o39 : Option (Sum Int Nat)), EvF mtab d k_X12_laysFlows 129 [some (.inr (.inr 187)), dv o37, dv o38, dv o39] [] (SH L0, r) (none, (SH L0, t0))) r := by
        obtain ⟨D40, hre⟩ : ∃ q, q = r := ⟨r, rfl⟩
        subst hre
        intro o37 o38 o39
        show EvF mtab d k_X12_laysFlows 129 [some (.inr (.inr 187)), dv o37, dv o38, dv o39] [] (SH L0, D40) (none, (SH L0, t0))
        obtain ⟨r, hr, h⟩ := bnd h
        have hX : (fun (r : DT) => ∀ (o45 : Option (Sum Int Nat)), EvF mtab d k_X12_laysFlows 152 [some (.inr (.inr 187)), dv o37, dv o45, dv o39] [] (SH L0, r) (none, (SH L0, t0))) r := by
          obtain ⟨D46, hre⟩ : ∃ q, q = r := ⟨r, rfl⟩
          subst hre
          intro o45
          show EvF mtab d k_X12_laysFlows 152 [some (.inr (.inr 187)), dv o37, dv o45, dv o39] [] (SH L0, D46) (none, (SH L0, t0))
          obtain ⟨r, hr, h⟩ := bnd h
          have hX : (fun (r : DT) => ∀ (o56 : Option (Sum Int Nat)), EvF mtab d k_X12_laysFlows 205 [some (.inr (.inr 187)), dv o37, dv o56, dv o39] [] (SH L0, r) (none, (SH L0, t0))) r := by
            obtain ⟨D57, hre⟩ : ∃ q, q = r := ⟨r, rfl⟩
            subst hre
            intro o56
            show EvF mtab d k_X12_laysFlows 205 [some (.inr (.inr 187)), dv o37, dv o56, dv o39] [] (SH L0, D57) (none, (SH L0, t0))
            cases h
            exact ev_ret 1 (fun _ _ => rfl)
          clear h
          refine ev_go 2 (pc' := 154) (L' := [some (.inr (.inr 187)), dv o37, some (.inl 0), dv o39]) (S' := []) (σ' := (SH L0, D46)) (fun _ _ => by rcases o37 with _ | (_ | _) <;> rfl) ?_
          refine loop_ind (P := fun s => EvF mtab d k_X12_laysFlows 154 [some (.inr (.inr 187)), dv o37, some (.inl s.1), dv o39] [] (SH L0, s.2) (none, (SH L0, t0))) (X := fun r => ∀ (o56 : Option (Sum Int Nat)), EvF mtab d k_X12_laysFlows 205 [some (.inr (.inr 187)), dv o37, dv o56, dv o39] [] (SH L0, r) (none, (SH L0, t0))) hr hX ?_
          clear hr hX
          intro s t hb hK0
          obtain ⟨l2_47, D48⟩ := s
          show EvF mtab d k_X12_laysFlows 154 [some (.inr (.inr 187)), dv o37, some (.inl l2_47), dv o39] [] (SH L0, D48) (none, (SH L0, t0))
          unfold b_X12_laysFlows_154 at hb
          obtain ⟨x49, hx, hb⟩ := bnd hb
          refine ev_call (e_X12_arcs L0 d (by omega) hx) 3 (pc' := 159) (L' := [some (.inr (.inr 187)), dv o37, some (.inl l2_47), dv o39]) (S' := [.inl l2_47]) (fun _ _ => rfl) ?_
          rcases ite_or hb with ⟨hc, hb⟩ | ⟨hc, hb⟩
          · refine ev_ift hc 1 (pc' := 162) (L' := [some (.inr (.inr 187)), dv o37, some (.inl l2_47), dv o39]) (S' := []) (σ' := (SH L0, D48)) (fun _ _ => rfl) ?_
            obtain ⟨x50, hx, hb⟩ := bnd hb
            refine ev_bind hx 6 (pc' := 172) (L' := fun x50 => [some (.inr (.inr 187)), dv o37, some (.inl l2_47), dv o39]) (S' := fun x50 => [.inl x50]) (σ' := fun x50 => (SH L0, D48)) (fun _ _ => rfl) ?_
            obtain ⟨D55, hv, hb⟩ := bnd hb
            have hJ : EvF mtab d k_X12_laysFlows 199 [some (.inr (.inr 187)), dv o37, some (.inl l2_47), dv o39] [] (SH L0, D55) (none, (SH L0, t0)) := by
              cases hb
              exact ev_go 2 (pc' := 154) (L' := [some (.inr (.inr 187)), dv o37, some (.inl (w32 (l2_47 + 1))), dv o39]) (S' := []) (σ' := (SH L0, D55)) (fun _ _ => by rcases o37 with _ | (_ | _) <;> rfl) hK0
            clear hb
            rcases ite_or hv with ⟨hc, hv⟩ | ⟨hc, hv⟩
            · refine ev_ift hc 1 (pc' := 199) (L' := [some (.inr (.inr 187)), dv o37, some (.inl l2_47), dv o39]) (S' := []) (σ' := (SH L0, D48)) (fun _ _ => rfl) ?_
              have he0 := Option.some.inj hv
              subst he0
              exact hJ
            · refine ev_iff hc 1 (pc' := 175) (L' := [some (.inr (.inr 187)), dv o37, some (.inl l2_47), dv o39]) (S' := []) (σ' := (SH L0, D48)) (fun _ _ => rfl) ?_
              obtain ⟨x51, hx, hv⟩ := bnd hv
              refine ev_bind hx 8 (pc' := 189) (L' := fun x51 => [some (.inr (.inr 187)), dv o37, some (.inl l2_47), dv o39]) (S' := fun x51 => [.inl x51, .inr (.inr 190)]) (σ' := fun x51 => (SH L0, D48)) (fun _ _ => rfl) ?_
              obtain ⟨x52, hx, hv⟩ := bnd hv
              refine ev_bind hx 2 (pc' := 191) (L' := fun x52 => [some (.inr (.inr 187)), dv o37, some (.inl l2_47), dv o39]) (S' := fun x52 => [.inl x52, .inl x51, .inr (.inr 190)]) (σ' := fun x52 => (SH L0, D48)) (fun _ _ => rfl) ?_
              obtain ⟨x53, hx, hv⟩ := bnd hv
              refine ev_bind hx 4 (pc' := 197) (L' := fun x53 => [some (.inr (.inr 187)), dv o37, some (.inl l2_47), dv o39]) (S' := fun x53 => [.inl x53, .inl x52, .inl x51, .inr (.inr 190)]) (σ' := fun x53 => (SH L0, D48)) (fun _ _ => rfl) ?_
              obtain ⟨D54, hx, hv⟩ := bnd hv
              refine ev_bind hx 2 (pc' := 199) (L' := fun D54 => [some (.inr (.inr 187)), dv o37, some (.inl l2_47), dv o39]) (S' := fun D54 => []) (σ' := fun D54 => (SH L0, D54)) (fun _ _ => rfl) ?_
              have he0 := Option.some.inj hv
              subst he0
              exact hJ
          · refine ev_iff hc 1 (pc' := 205) (L' := [some (.inr (.inr 187)), dv o37, some (.inl l2_47), dv o39]) (S' := []) (σ' := (SH L0, D48)) (fun _ _ => rfl) ?_
            cases hb
            exact hK0 (some (.inl l2_47))
        clear h
        refine ev_go 2 (pc' := 131) (L' := [some (.inr (.inr 187)), dv o37, some (.inl 0), dv o39]) (S' := []) (σ' := (SH L0, D40)) (fun _ _ => by rcases o37 with _ | (_ | _) <;> rfl) ?_
        refine loop_ind (P := fun s => EvF mtab d k_X12_laysFlows 131 [some (.inr (.inr 187)), dv o37, some (.inl s.1), dv o39] [] (SH L0, s.2) (none, (SH L0, t0))) (X := fun r => ∀ (o45 : Option (Sum Int Nat)), EvF mtab d k_X12_laysFlows 152 [some (.inr (.inr 187)), dv o37, dv o45, dv o39] [] (SH L0, r) (none, (SH L0, t0))) hr hX ?_
        clear hr hX
        intro s t hb hK0
        obtain ⟨l2_41, D42⟩ := s
        show EvF mtab d k_X12_laysFlows 131 [some (.inr (.inr 187)), dv o37, some (.inl l2_41), dv o39] [] (SH L0, D42) (none, (SH L0, t0))
        unfold b_X12_laysFlows_131 at hb
        obtain ⟨x43, hx, hb⟩ := bnd hb
        refine ev_call (e_X12_blocks L0 d (by omega) hx) 3 (pc' := 136) (L' := [some (.inr (.inr 187)), dv o37, some (.inl l2_41), dv o39]) (S' := [.inl l2_41]) (fun _ _ => rfl) ?_
        rcases ite_or hb with ⟨hc, hb⟩ | ⟨hc, hb⟩
        · refine ev_ift hc 1 (pc' := 139) (L' := [some (.inr (.inr 187)), dv o37, some (.inl l2_41), dv o39]) (S' := []) (σ' := (SH L0, D42)) (fun _ _ => rfl) ?_
          obtain ⟨D44, hx, hb⟩ := bnd hb
          refine ev_bind hx 5 (pc' := 146) (L' := fun D44 => [some (.inr (.inr 187)), dv o37, some (.inl l2_41), dv o39]) (S' := fun D44 => []) (σ' := fun D44 => (SH L0, D44)) (fun _ _ => rfl) ?_
          cases hb
          exact ev_go 2 (pc' := 131) (L' := [some (.inr (.inr 187)), dv o37, some (.inl (w32 (l2_41 + 1))), dv o39]) (S' := []) (σ' := (SH L0, D44)) (fun _ _ => by rcases o37 with _ | (_ | _) <;> rfl) hK0
        · refine ev_iff hc 1 (pc' := 152) (L' := [some (.inr (.inr 187)), dv o37, some (.inl l2_41), dv o39]) (S' := []) (σ' := (SH L0, D42)) (fun _ _ => rfl) ?_
          cases hb
          exact hK0 (some (.inl l2_41))
      clear h
      refine ev_go 2 (pc' := 46) (L' := [some (.inr (.inr 187)), some (.inl 1), none, none]) (S' := []) (σ' := (SH L0, D13)) (fun _ _ => rfl) ?_
      refine loop_ind (P := fun s => ∀ (o15 : Option (Sum Int Nat)) (o16 : Option (Sum Int Nat)), EvF mtab d k_X12_laysFlows 46 [some (.inr (.inr 187)), some (.inl s.1), dv o15, dv o16] [] (SH L0, s.2) (none, (SH L0, t0))) (X := fun r => ∀ (o37 : Option (Sum Int Nat)) (o38 : Option (Sum Int Nat)) (o39 : Option (Sum Int Nat)), EvF mtab d k_X12_laysFlows 129 [some (.inr (.inr 187)), dv o37, dv o38, dv o39] [] (SH L0, r) (none, (SH L0, t0))) hr hX ?_ none none
      clear hr hX
      intro s t hb hK0
      obtain ⟨l1_14, D17⟩ := s
      intro o15 o16
      show EvF mtab d k_X12_laysFlows 46 [some (.inr (.inr 187)), some (.inl l1_14), dv o15, dv o16] [] (SH L0, D17) (none, (SH L0, t0))
      unfold b_X12_laysFlows_46 at hb
      rcases ite_or hb with ⟨hc, hb⟩ | ⟨hc, hb⟩
      · refine ev_ift hc 2 (pc' := 129) (L' := [some (.inr (.inr 187)), some (.inl l1_14), dv o15, dv o16]) (S' := []) (σ' := (SH L0, D17)) (fun _ _ => rfl) ?_
        cases hb
        exact hK0 (some (.inl l1_14)) o15 o16
      · refine ev_iff hc 2 (pc' := 50) (L' := [some (.inr (.inr 187)), some (.inl l1_14), dv o15, dv o16]) (S' := []) (σ' := (SH L0, D17)) (fun _ _ => rfl) ?_
        obtain ⟨r, hr, hb⟩ := bnd hb
        have hX : (fun (r : (Int × DT)) => ∀ (o34 : Option (Sum Int Nat)) (o35 : Option (Sum Int Nat)), EvF mtab d k_X12_laysFlows 126 [some (.inr (.inr 187)), some (.inl r.1), dv o34, dv o35] [] (SH L0, r.2) (none, (SH L0, t0))) r := by
          obtain ⟨l1_33, D36⟩ := r
          intro o34 o35
          show EvF mtab d k_X12_laysFlows 126 [some (.inr (.inr 187)), some (.inl l1_33), dv o34, dv o35] [] (SH L0, D36) (none, (SH L0, t0))
          cases hb
          exact ev_go 1 (pc' := 46) (L' := [some (.inr (.inr 187)), some (.inl l1_33), dv o34, dv o35]) (S' := []) (σ' := (SH L0, D36)) (fun _ _ => rfl) (hK0 o34 o35)
        clear hb
        refine ev_go 4 (pc' := 54) (L' := [some (.inr (.inr 187)), some (.inl 0), some (.inl 0), dv o16]) (S' := []) (σ' := (SH L0, D17)) (fun _ _ => rfl) ?_
        refine loop_ind (P := fun s => ∀ (o20 : Option (Sum Int Nat)), EvF mtab d k_X12_laysFlows 54 [some (.inr (.inr 187)), some (.inl s.1), some (.inl s.2.1), dv o20] [] (SH L0, s.2.2) (none, (SH L0, t0))) (X := fun r => ∀ (o34 : Option (Sum Int Nat)) (o35 : Option (Sum Int Nat)), EvF mtab d k_X12_laysFlows 126 [some (.inr (.inr 187)), some (.inl r.1), dv o34, dv o35] [] (SH L0, r.2) (none, (SH L0, t0))) hr hX ?_ o16
        clear hr hX
        intro s t hb hK1
        obtain ⟨l1_18, l2_19, D21⟩ := s
        intro o20
        show EvF mtab d k_X12_laysFlows 54 [some (.inr (.inr 187)), some (.inl l1_18), some (.inl l2_19), dv o20] [] (SH L0, D21) (none, (SH L0, t0))
        unfold b_X12_laysFlows_54 at hb
        obtain ⟨x22, hx, hb⟩ := bnd hb
        refine ev_call (e_X12_blocks L0 d (by omega) hx) 3 (pc' := 59) (L' := [some (.inr (.inr 187)), some (.inl l1_18), some (.inl l2_19), dv o20]) (S' := [.inl l2_19]) (fun _ _ => rfl) ?_
        rcases ite_or hb with ⟨hc, hb⟩ | ⟨hc, hb⟩
        · refine ev_ift hc 1 (pc' := 62) (L' := [some (.inr (.inr 187)), some (.inl l1_18), some (.inl l2_19), dv o20]) (S' := []) (σ' := (SH L0, D21)) (fun _ _ => rfl) ?_
          obtain ⟨x23, hx, hb⟩ := bnd hb
          refine ev_call (e_X12_openAt L0 d (by omega) hx) 3 (pc' := 67) (L' := [some (.inr (.inr 187)), some (.inl l1_18), some (.inl l2_19), dv o20]) (S' := []) (fun _ _ => rfl) ?_
          obtain ⟨⟨l1_31, D32⟩, hv, hb⟩ := bnd hb
          have hJ : EvF mtab d k_X12_laysFlows 120 [some (.inr (.inr 187)), some (.inl l1_31), some (.inl l2_19), some (.inl x23)] [] (SH L0, D32) (none, (SH L0, t0)) := by
            cases hb
            exact ev_go 2 (pc' := 54) (L' := [some (.inr (.inr 187)), some (.inl l1_31), some (.inl (w32 (l2_19 + 1))), some (.inl x23)]) (S' := []) (σ' := (SH L0, D32)) (fun _ _ => rfl) (hK1 (some (.inl x23)))
          clear hb
          rcases ite_or hv with ⟨hc, hv⟩ | ⟨hc, hv⟩
          · refine ev_ift hc 3 (pc' := 72) (L' := [some (.inr (.inr 187)), some (.inl l1_18), some (.inl l2_19), some (.inl x23)]) (S' := []) (σ' := (SH L0, D21)) (fun _ _ => rfl) ?_
            have he0 := Option.some.inj hv
            obtain ⟨ha0, he1⟩ := Prod.mk.inj he0
            clear he0
            subst ha0
            subst he1
            exact ev_go 1 (pc' := 120) (L' := [some (.inr (.inr 187)), some (.inl l1_18), some (.inl l2_19), some (.inl x23)]) (S' := []) (σ' := (SH L0, D21)) (fun _ _ => rfl) hJ
          · refine ev_iff hc 3 (pc' := 75) (L' := [some (.inr (.inr 187)), some (.inl l1_18), some (.inl l2_19), some (.inl x23)]) (S' := []) (σ' := (SH L0, D21)) (fun _ _ => rfl) ?_
            obtain ⟨x24, hx, hv⟩ := bnd hv
            refine ev_bind hx 9 (pc' := 90) (L' := fun x24 => [some (.inr (.inr 187)), some (.inl l1_18), some (.inl l2_19), some (.inl x23)]) (S' := fun x24 => [.inl x24, .inl x23, .inr (.inr 189)]) (σ' := fun x24 => (SH L0, D21)) (fun _ _ => rfl) ?_
            obtain ⟨t27, hv, hv⟩ := bnd hv
            have hJ : EvF mtab d k_X12_laysFlows 110 [some (.inr (.inr 187)), some (.inl l1_18), some (.inl l2_19), some (.inl x23)] [.inl t27, .inl x23, .inr (.inr 189)] (SH L0, D21) (none, (SH L0, t0)) := by
              obtain ⟨D28, hx, hv⟩ := bnd hv
              refine ev_bind hx 1 (pc' := 111) (L' := fun D28 => [some (.inr (.inr 187)), some (.inl l1_18), some (.inl l2_19), some (.inl x23)]) (S' := fun D28 => []) (σ' := fun D28 => (SH L0, D28)) (fun _ _ => rfl) ?_
              obtain ⟨x29, hx, hv⟩ := bnd hv
              obtain ⟨D30, hy, hv⟩ := bnd hv
              refine ev_bind2 (Y := fun x29 => awr D28 193 88 x23 x29) hx hy 5 (pc' := 118) (L' := fun x29 D30 => [some (.inr (.inr 187)), some (.inl l1_18), some (.inl l2_19), some (.inl x23)]) (S' := fun x29 D30 => []) (σ' := fun x29 D30 => (SH L0, D30)) (fun _ _ => rfl) ?_
              have he0 := Option.some.inj hv
              obtain ⟨ha0, he1⟩ := Prod.mk.inj he0
              clear he0
              subst ha0
              subst he1
              exact ev_go 2 (pc' := 120) (L' := [some (.inr (.inr 187)), some (.inl 1), some (.inl l2_19), some (.inl x23)]) (S' := []) (σ' := (SH L0, D30)) (fun _ _ => rfl) hJ
            clear hv
            rcases ite_or hv with ⟨hc, hv⟩ | ⟨hc, hv⟩
            · refine ev_ift hc 2 (pc' := 94) (L' := [some (.inr (.inr 187)), some (.inl l1_18), some (.inl l2_19), some (.inl x23)]) (S' := [.inl x23, .inr (.inr 189)]) (σ' := (SH L0, D21)) (fun _ _ => rfl) ?_
              obtain ⟨x25, hx, hv⟩ := bnd hv
              refine ev_call (e_X12_overAt L0 d (by omega) hx) 4 (pc' := 100) (L' := [some (.inr (.inr 187)), some (.inl l1_18), some (.inl l2_19), some (.inl x23)]) (S' := [.inl x23, .inr (.inr 189)]) (fun _ _ => rfl) ?_
              have he0 := Option.some.inj hv
              subst he0
              exact ev_go 1 (pc' := 110) (L' := [some (.inr (.inr 187)), some (.inl l1_18), some (.inl l2_19), some (.inl x23)]) (S' := [.inl x25, .inl x23, .inr (.inr 189)]) (σ' := (SH L0, D21)) (fun _ _ => rfl) hJ
            · refine ev_iff hc 2 (pc' := 103) (L' := [some (.inr (.inr 187)), some (.inl l1_18), some (.inl l2_19), some (.inl x23)]) (S' := [.inl x23, .inr (.inr 189)]) (σ' := (SH L0, D21)) (fun _ _ => rfl) ?_
              obtain ⟨x26, hx, hv⟩ := bnd hv
              refine ev_call (e_X12_overAt L0 d (by omega) hx) 4 (pc' := 109) (L' := [some (.inr (.inr 187)), some (.inl l1_18), some (.inl l2_19), some (.inl x23)]) (S' := [.inl x23, .inr (.inr 189)]) (fun _ _ => rfl) ?_
              have he0 := Option.some.inj hv
              subst he0
              exact ev_go 1 (pc' := 110) (L' := [some (.inr (.inr 187)), some (.inl l1_18), some (.inl l2_19), some (.inl x23)]) (S' := [.inl (w32 (-x26)), .inl x23, .inr (.inr 189)]) (σ' := (SH L0, D21)) (fun _ _ => rfl) hJ
        · refine ev_iff hc 1 (pc' := 126) (L' := [some (.inr (.inr 187)), some (.inl l1_18), some (.inl l2_19), dv o20]) (S' := []) (σ' := (SH L0, D21)) (fun _ _ => rfl) ?_
          cases hb
          exact hK1 (some (.inl l2_19)) o20
    clear h
    refine ev_go 2 (pc' := 25) (L' := [some (.inr (.inr 187)), some (.inl 0), none, none]) (S' := []) (σ' := (SH L0, D7)) (fun _ _ => rfl) ?_
    refine loop_ind (P := fun s => EvF mtab d k_X12_laysFlows 25 [some (.inr (.inr 187)), some (.inl s.1), none, none] [] (SH L0, s.2) (none, (SH L0, t0))) (X := fun r => ∀ (o12 : Option (Sum Int Nat)), EvF mtab d k_X12_laysFlows 44 [some (.inr (.inr 187)), dv o12, none, none] [] (SH L0, r) (none, (SH L0, t0))) hr hX ?_
    clear hr hX
    intro s t hb hK0
    obtain ⟨l1_8, D9⟩ := s
    show EvF mtab d k_X12_laysFlows 25 [some (.inr (.inr 187)), some (.inl l1_8), none, none] [] (SH L0, D9) (none, (SH L0, t0))
    unfold b_X12_laysFlows_25 at hb
    obtain ⟨x10, hx, hb⟩ := bnd hb
    refine ev_call (e_X12_funs L0 d (by omega) hx) 3 (pc' := 30) (L' := [some (.inr (.inr 187)), some (.inl l1_8), none, none]) (S' := [.inl l1_8]) (fun _ _ => rfl) ?_
    rcases ite_or hb with ⟨hc, hb⟩ | ⟨hc, hb⟩
    · refine ev_ift hc 1 (pc' := 33) (L' := [some (.inr (.inr 187)), some (.inl l1_8), none, none]) (S' := []) (σ' := (SH L0, D9)) (fun _ _ => rfl) ?_
      obtain ⟨D11, hx, hb⟩ := bnd hb
      refine ev_call (e_X12_takesArcs L0 d (by omega) hx) 3 (pc' := 38) (L' := [some (.inr (.inr 187)), some (.inl l1_8), none, none]) (S' := []) (fun _ _ => rfl) ?_
      cases hb
      exact ev_go 2 (pc' := 25) (L' := [some (.inr (.inr 187)), some (.inl (w32 (l1_8 + 1))), none, none]) (S' := []) (σ' := (SH L0, D11)) (fun _ _ => rfl) hK0
    · refine ev_iff hc 1 (pc' := 44) (L' := [some (.inr (.inr 187)), some (.inl l1_8), none, none]) (S' := []) (σ' := (SH L0, D9)) (fun _ _ => rfl) ?_
      cases hb
      exact hK0 (some (.inl l1_8))
  clear h
  refine ev_go 2 (pc' := 2) (L' := [some (.inr (.inr 187)), some (.inl 0), none, none]) (S' := []) (σ' := (SH L0, D)) (fun _ _ => rfl) ?_
  refine loop_ind (P := fun s => EvF mtab d k_X12_laysFlows 2 [some (.inr (.inr 187)), some (.inl s.1), none, none] [] (SH L0, s.2) (none, (SH L0, t0))) (X := fun r => ∀ (o6 : Option (Sum Int Nat)), EvF mtab d k_X12_laysFlows 23 [some (.inr (.inr 187)), dv o6, none, none] [] (SH L0, r) (none, (SH L0, t0))) hr hX ?_
  clear hr hX
  intro s t hb hK0
  obtain ⟨l1_1, D2⟩ := s
  show EvF mtab d k_X12_laysFlows 2 [some (.inr (.inr 187)), some (.inl l1_1), none, none] [] (SH L0, D2) (none, (SH L0, t0))
  unfold b_X12_laysFlows_2 at hb
  obtain ⟨x3, hx, hb⟩ := bnd hb
  refine ev_call (e_X12_arcs L0 d (by omega) hx) 3 (pc' := 7) (L' := [some (.inr (.inr 187)), some (.inl l1_1), none, none]) (S' := [.inl l1_1]) (fun _ _ => rfl) ?_
  rcases ite_or hb with ⟨hc, hb⟩ | ⟨hc, hb⟩
  · refine ev_ift hc 1 (pc' := 10) (L' := [some (.inr (.inr 187)), some (.inl l1_1), none, none]) (S' := []) (σ' := (SH L0, D2)) (fun _ _ => rfl) ?_
    obtain ⟨x4, hx, hb⟩ := bnd hb
    obtain ⟨D5, hy, hb⟩ := bnd hb
    refine ev_bind2 (Y := fun x4 => awr D2 194 88 l1_1 x4) hx hy 5 (pc' := 17) (L' := fun x4 D5 => [some (.inr (.inr 187)), some (.inl l1_1), none, none]) (S' := fun x4 D5 => []) (σ' := fun x4 D5 => (SH L0, D5)) (fun _ _ => rfl) ?_
    cases hb
    exact ev_go 2 (pc' := 2) (L' := [some (.inr (.inr 187)), some (.inl (w32 (l1_1 + 1))), none, none]) (S' := []) (σ' := (SH L0, D5)) (fun _ _ => rfl) hK0
  · refine ev_iff hc 1 (pc' := 23) (L' := [some (.inr (.inr 187)), some (.inl l1_1), none, none]) (S' := []) (σ' := (SH L0, D2)) (fun _ _ => rfl) ?_
    cases hb
    exact hK0 (some (.inl l1_1))
set_option maxRecDepth 100000 in
set_option maxHeartbeats 4000000 in
theorem e_X12_jumpsIn_187_198 (L0 d : Nat) (hd : 3 ≤ d) {p2 p3 : Int} {D : DT} {t0 : Int} (h : m_X12_jumpsIn 198 p2 p3 D = some t0) : Ret mtab d 187 [.inr (.inr 187), .inr (.inr 198), .inl p2, .inl p3] (SH L0, D) (some (.inl t0), (SH L0, D)) := by
  obtain ⟨d, rfl⟩ : ∃ e, d = e + 1 := ⟨d - 1, by omega⟩
  refine Ret.of (code := k_X12_jumpsIn) (ml := 10) rfl ?_
  show EvF mtab d k_X12_jumpsIn 0 [some (.inr (.inr 187)), some (.inr (.inr 198)), some (.inl p2), some (.inl p3), none, none, none, none, none, none] [] (SH L0, D) (some (.inl t0), (SH L0, D))
  unfold m_X12_jumpsIn at h
  obtain ⟨r, hr, h⟩ := bnd h
  have hX : (fun (r : Int) => ∀ (o26 : Option (Sum Int Nat)) (o27 : Option (Sum Int Nat)) (o28 : Option (Sum Int Nat)) (o29 : Option (Sum Int Nat)) (o30 : Option (Sum Int Nat)), EvF mtab d k_X12_jumpsIn 128 [some (.inr (.inr 187)), some (.inr (.inr 198)), some (.inl p2), some (.inl p3), some (.inl r), dv o26, dv o27, dv o28, dv o29, dv o30] [] (SH L0, D) (some (.inl t0), (SH L0, D))) r := by
    obtain ⟨l4_25, hre⟩ : ∃ q, q = r := ⟨r, rfl⟩
    subst hre
    intro o26 o27 o28 o29 o30
    show EvF mtab d k_X12_jumpsIn 128 [some (.inr (.inr 187)), some (.inr (.inr 198)), some (.inl p2), some (.inl p3), some (.inl l4_25), dv o26, dv o27, dv o28, dv o29, dv o30] [] (SH L0, D) (some (.inl t0), (SH L0, D))
    cases h
    exact ev_ret 2 (fun _ _ => rfl)
  clear h
  refine ev_go 4 (pc' := 6) (L' := [some (.inr (.inr 187)), some (.inr (.inr 198)), some (.inl p2), some (.inl p3), some (.inl 0), some (.inl 0), none, none, none, none]) (S' := []) (σ' := (SH L0, D)) (fun _ _ => rfl) ?_
  refine loop_ind (P := fun s => ∀ (o3 : Option (Sum Int Nat)) (o4 : Option (Sum Int Nat)) (o5 : Option (Sum Int Nat)) (o6 : Option (Sum Int Nat)), EvF mtab d k_X12_jumpsIn 6 [some (.inr (.inr 187)), some (.inr (.inr 198)), some (.inl p2), some (.inl p3), some (.inl s.1), some (.inl s.2), dv o3, dv o4, dv o5, dv o6] [] (SH L0, D) (some (.inl t0), (SH L0, D))) (X := fun r => ∀ (o26 : Option (Sum Int Nat)) (o27 : Option (Sum Int Nat)) (o28 : Option (Sum Int Nat)) (o29 : Option (Sum Int Nat)) (o30 : Option (Sum Int Nat)), EvF mtab d k_X12_jumpsIn 128 [some (.inr (.inr 187)), some (.inr (.inr 198)), some (.inl p2), some (.inl p3), some (.inl r), dv o26, dv o27, dv o28, dv o29, dv o30] [] (SH L0, D) (some (.inl t0), (SH L0, D))) hr hX ?_ none none none none
  clear hr hX
  intro s t hb hK0
  obtain ⟨l4_1, l5_2⟩ := s
  intro o3 o4 o5 o6
  show EvF mtab d k_X12_jumpsIn 6 [some (.inr (.inr 187)), some (.inr (.inr 198)), some (.inl p2), some (.inl p3), some (.inl l4_1), some (.inl l5_2), dv o3, dv o4, dv o5, dv o6] [] (SH L0, D) (some (.inl t0), (SH L0, D))
  unfold b_X12_jumpsIn_6 at hb
  rcases ite_or hb with ⟨hc, hb⟩ | ⟨hc, hb⟩
  · refine ev_ift hc 3 (pc' := 12) (L' := [some (.inr (.inr 187)), some (.inr (.inr 198)), some (.inl p2), some (.inl p3), some (.inl l4_1), some (.inl l5_2), dv o3, dv o4, dv o5, dv o6]) (S' := []) (σ' := (SH L0, D)) (fun _ _ => rfl) ?_
    obtain ⟨x7, hx, hb⟩ := bnd hb
    refine ev_bind hx 5 (pc' := 18) (L' := fun x7 => [some (.inr (.inr 187)), some (.inr (.inr 198)), some (.inl p2), some (.inl p3), some (.inl l4_1), some (.inl l5_2), dv o3, dv o4, dv o5, dv o6]) (S' := fun x7 => [.inl x7]) (σ' := fun x7 => (SH L0, D)) (fun _ _ => rfl) ?_
    obtain ⟨t9, hv, hb⟩ := bnd hb
    have hJ : EvF mtab d k_X12_jumpsIn 40 [some (.inr (.inr 187)), some (.inr (.inr 198)), some (.inl p2), some (.inl p3), some (.inl l4_1), some (.inl l5_2), some (.inl x7), dv o4, dv o5, dv o6] [.inl t9] (SH L0, D) (some (.inl t0), (SH L0, D)) := by
      obtain ⟨r, hr, hb⟩ := bnd hb
      have hX : (fun (r : Int) => ∀ (o23 : Option (Sum Int Nat)) (o24 : Option (Sum Int Nat)), EvF mtab d k_X12_jumpsIn 122 [some (.inr (.inr 187)), some (.inr (.inr 198)), some (.inl p2), some (.inl p3), some (.inl r), some (.inl l5_2), some (.inl x7), some (.inl t9), dv o23, dv o24] [] (SH L0, D) (some (.inl t0), (SH L0, D))) r := by
        obtain ⟨l4_22, hre⟩ : ∃ q, q = r := ⟨r, rfl⟩
        subst hre
        intro o23 o24
        show EvF mtab d k_X12_jumpsIn 122 [some (.inr (.inr 187)), some (.inr (.inr 198)), some (.inl p2), some (.inl p3), some (.inl l4_22), some (.inl l5_2), some (.inl x7), some (.inl t9), dv o23, dv o24] [] (SH L0, D) (some (.inl t0), (SH L0, D))
        cases hb
        exact ev_go 2 (pc' := 6) (L' := [some (.inr (.inr 187)), some (.inr (.inr 198)), some (.inl p2), some (.inl p3), some (.inl l4_22), some (.inl (w32 (l5_2 + 1))), some (.inl x7), some (.inl t9), dv o23, dv o24]) (S' := []) (σ' := (SH L0, D)) (fun _ _ => rfl) (hK0 (some (.inl x7)) (some (.inl t9)) o23 o24)
      clear hb
      refine ev_go 3 (pc' := 45) (L' := [some (.inr (.inr 187)), some (.inr (.inr 198)), some (.inl p2), some (.inl p3), some (.inl l4_1), some (.inl l5_2), some (.inl x7), some (.inl t9), some (.inl 0), dv o6]) (S' := []) (σ' := (SH L0, D)) (fun _ _ => rfl) ?_
      refine loop_ind (P := fun s => ∀ (o12 : Option (Sum Int Nat)), EvF mtab d k_X12_jumpsIn 45 [some (.inr (.inr 187)), some (.inr (.inr 198)), some (.inl p2), some (.inl p3), some (.inl s.1), some (.inl l5_2), some (.inl x7), some (.inl t9), some (.inl s.2), dv o12] [] (SH L0, D) (some (.inl t0), (SH L0, D))) (X := fun r => ∀ (o23 : Option (Sum Int Nat)) (o24 : Option (Sum Int Nat)), EvF mtab d k_X12_jumpsIn 122 [some (.inr (.inr 187)), some (.inr (.inr 198)), some (.inl p2), some (.inl p3), some (.inl r), some (.inl l5_2), some (.inl x7), some (.inl t9), dv o23, dv o24] [] (SH L0, D) (some (.inl t0), (SH L0, D))) hr hX ?_ o6
      clear hr hX
      intro s t hb hK1
      obtain ⟨l4_10, l8_11⟩ := s
      intro o12
      show EvF mtab d k_X12_jumpsIn 45 [some (.inr (.inr 187)), some (.inr (.inr 198)), some (.inl p2), some (.inl p3), some (.inl l4_10), some (.inl l5_2), some (.inl x7), some (.inl t9), some (.inl l8_11), dv o12] [] (SH L0, D) (some (.inl t0), (SH L0, D))
      unfold b_X12_jumpsIn_45 at hb
      obtain ⟨x13, hx, hb⟩ := bnd hb
      refine ev_call (e_X12_endOf L0 d (by omega) hx) 3 (pc' := 51) (L' := [some (.inr (.inr 187)), some (.inr (.inr 198)), some (.inl p2), some (.inl p3), some (.inl l4_10), some (.inl l5_2), some (.inl x7), some (.inl t9), some (.inl l8_11), dv o12]) (S' := []) (fun _ _ => rfl) ?_
      rcases ite_or hb with ⟨hc, hb⟩ | ⟨hc, hb⟩
      · refine ev_ift hc 1 (pc' := 122) (L' := [some (.inr (.inr 187)), some (.inr (.inr 198)), some (.inl p2), some (.inl p3), some (.inl l4_10), some (.inl l5_2), some (.inl x7), some (.inl t9), some (.inl l8_11), dv o12]) (S' := []) (σ' := (SH L0, D)) (fun _ _ => rfl) ?_
        cases hb
        exact hK1 (some (.inl l8_11)) o12
      · refine ev_iff hc 1 (pc' := 54) (L' := [some (.inr (.inr 187)), some (.inr (.inr 198)), some (.inl p2), some (.inl p3), some (.inl l4_10), some (.inl l5_2), some (.inl x7), some (.inl t9), some (.inl l8_11), dv o12]) (S' := []) (σ' := (SH L0, D)) (fun _ _ => rfl) ?_
        obtain ⟨x14, hx, hb⟩ := bnd hb
        refine ev_call (e_X12_arcsOf L0 d (by omega) hx) 4 (pc' := 62) (L' := [some (.inr (.inr 187)), some (.inr (.inr 198)), some (.inl p2), some (.inl p3), some (.inl l4_10), some (.inl l5_2), some (.inl x7), some (.inl t9), some (.inl l8_11), dv o12]) (S' := [.inl l8_11]) (fun _ _ => rfl) ?_
        rcases ite_or hb with ⟨hc, hb⟩ | ⟨hc, hb⟩
        · refine ev_ift hc 1 (pc' := 65) (L' := [some (.inr (.inr 187)), some (.inr (.inr 198)), some (.inl p2), some (.inl p3), some (.inl l4_10), some (.inl l5_2), some (.inl x7), some (.inl t9), some (.inl l8_11), dv o12]) (S' := []) (σ' := (SH L0, D)) (fun _ _ => rfl) ?_
          obtain ⟨x15, hx, hb⟩ := bnd hb
          refine ev_call (e_X12_firstArc L0 d (by omega) hx) 3 (pc' := 71) (L' := [some (.inr (.inr 187)), some (.inr (.inr 198)), some (.inl p2), some (.inl p3), some (.inl l4_10), some (.inl l5_2), some (.inl x7), some (.inl t9), some (.inl l8_11), dv o12]) (S' := []) (fun _ _ => rfl) ?_
          obtain ⟨t21, hv, hb⟩ := bnd hb
          have hJ : EvF mtab d k_X12_jumpsIn 113 [some (.inr (.inr 187)), some (.inr (.inr 198)), some (.inl p2), some (.inl p3), some (.inl l4_10), some (.inl l5_2), some (.inl x7), some (.inl t9), some (.inl l8_11), some (.inl (w32 (x15 + l8_11)))] [.inl t21, .inl l4_10] (SH L0, D) (some (.inl t0), (SH L0, D)) := by
            cases hb
            exact ev_go 4 (pc' := 45) (L' := [some (.inr (.inr 187)), some (.inr (.inr 198)), some (.inl p2), some (.inl p3), some (.inl (w32 (l4_10 + t21))), some (.inl l5_2), some (.inl x7), some (.inl t9), some (.inl (w32 (l8_11 + 1))), some (.inl (w32 (x15 + l8_11)))]) (S' := []) (σ' := (SH L0, D)) (fun _ _ => rfl) (hK1 (some (.inl (w32 (x15 + l8_11)))))
          clear hb
          rcases ite_or hv with ⟨hc, hv⟩ | ⟨hc, hv⟩
          · refine ev_ift hc 6 (pc' := 103) (L' := [some (.inr (.inr 187)), some (.inr (.inr 198)), some (.inl p2), some (.inl p3), some (.inl l4_10), some (.inl l5_2), some (.inl x7), some (.inl t9), some (.inl l8_11), some (.inl (w32 (x15 + l8_11)))]) (S' := [.inl l4_10]) (σ' := (SH L0, D)) (fun _ _ => rfl) ?_
            obtain ⟨x16, hx, hv⟩ := bnd hv
            refine ev_bind hx 4 (pc' := 110) (L' := fun x16 => [some (.inr (.inr 187)), some (.inr (.inr 198)), some (.inl p2), some (.inl p3), some (.inl l4_10), some (.inl l5_2), some (.inl x7), some (.inl t9), some (.inl l8_11), some (.inl (w32 (x15 + l8_11)))]) (S' := fun x16 => [.inl x16, .inl l4_10]) (σ' := fun x16 => (SH L0, D)) (fun _ _ => rfl) ?_
            obtain ⟨x17, hx, hv⟩ := bnd hv
            refine ev_call (e_X12_whole L0 d (by omega) hx) 1 (pc' := 113) (L' := [some (.inr (.inr 187)), some (.inr (.inr 198)), some (.inl p2), some (.inl p3), some (.inl l4_10), some (.inl l5_2), some (.inl x7), some (.inl t9), some (.inl l8_11), some (.inl (w32 (x15 + l8_11)))]) (S' := [.inl l4_10]) (fun _ _ => rfl) ?_
            have he0 := Option.some.inj hv
            subst he0
            exact hJ
          · refine ev_iff hc 6 (pc' := 83) (L' := [some (.inr (.inr 187)), some (.inr (.inr 198)), some (.inl p2), some (.inl p3), some (.inl l4_10), some (.inl l5_2), some (.inl x7), some (.inl t9), some (.inl l8_11), some (.inl (w32 (x15 + l8_11)))]) (S' := [.inl l4_10]) (σ' := (SH L0, D)) (fun _ _ => rfl) ?_
            obtain ⟨x18, hx, hv⟩ := bnd hv
            refine ev_bind hx 6 (pc' := 94) (L' := fun x18 => [some (.inr (.inr 187)), some (.inr (.inr 198)), some (.inl p2), some (.inl p3), some (.inl l4_10), some (.inl l5_2), some (.inl x7), some (.inl t9), some (.inl l8_11), some (.inl (w32 (x15 + l8_11)))]) (S' := fun x18 => [.inl x18, .inl l4_10]) (σ' := fun x18 => (SH L0, D)) (fun _ _ => rfl) ?_
            rcases ite_or hv with ⟨hc, hv⟩ | ⟨hc, hv⟩
            · refine ev_ift hc 2 (pc' := 99) (L' := [some (.inr (.inr 187)), some (.inr (.inr 198)), some (.inl p2), some (.inl p3), some (.inl l4_10), some (.inl l5_2), some (.inl x7), some (.inl t9), some (.inl l8_11), some (.inl (w32 (x15 + l8_11)))]) (S' := [.inl l4_10]) (σ' := (SH L0, D)) (fun _ _ => rfl) ?_
              have he0 := Option.some.inj hv
              subst he0
              exact ev_go 2 (pc' := 113) (L' := [some (.inr (.inr 187)), some (.inr (.inr 198)), some (.inl p2), some (.inl p3), some (.inl l4_10), some (.inl l5_2), some (.inl x7), some (.inl t9), some (.inl l8_11), some (.inl (w32 (x15 + l8_11)))]) (S' := [.inl 0, .inl l4_10]) (σ' := (SH L0, D)) (fun _ _ => rfl) hJ
            · refine ev_iff hc 2 (pc' := 103) (L' := [some (.inr (.inr 187)), some (.inr (.inr 198)), some (.inl p2), some (.inl p3), some (.inl l4_10), some (.inl l5_2), some (.inl x7), some (.inl t9), some (.inl l8_11), some (.inl (w32 (x15 + l8_11)))]) (S' := [.inl l4_10]) (σ' := (SH L0, D)) (fun _ _ => rfl) ?_
              obtain ⟨x19, hx, hv⟩ := bnd hv
              refine ev_bind hx 4 (pc' := 110) (L' := fun x19 => [some (.inr (.inr 187)), some (.inr (.inr 198)), some (.inl p2), some (.inl p3), some (.inl l4_10), some (.inl l5_2), some (.inl x7), some (.inl t9), some (.inl l8_11), some (.inl (w32 (x15 + l8_11)))]) (S' := fun x19 => [.inl x19, .inl l4_10]) (σ' := fun x19 => (SH L0, D)) (fun _ _ => rfl) ?_
              obtain ⟨x20, hx, hv⟩ := bnd hv
              refine ev_call (e_X12_whole L0 d (by omega) hx) 1 (pc' := 113) (L' := [some (.inr (.inr 187)), some (.inr (.inr 198)), some (.inl p2), some (.inl p3), some (.inl l4_10), some (.inl l5_2), some (.inl x7), some (.inl t9), some (.inl l8_11), some (.inl (w32 (x15 + l8_11)))]) (S' := [.inl l4_10]) (fun _ _ => rfl) ?_
              have he0 := Option.some.inj hv
              subst he0
              exact hJ
        · refine ev_iff hc 1 (pc' := 122) (L' := [some (.inr (.inr 187)), some (.inr (.inr 198)), some (.inl p2), some (.inl p3), some (.inl l4_10), some (.inl l5_2), some (.inl x7), some (.inl t9), some (.inl l8_11), dv o12]) (S' := []) (σ' := (SH L0, D)) (fun _ _ => rfl) ?_
          cases hb
          exact hK1 (some (.inl l8_11)) o12
    clear hb
    rcases ite_or hv with ⟨hc, hv⟩ | ⟨hc, hv⟩
    · refine ev_ift hc 6 (pc' := 28) (L' := [some (.inr (.inr 187)), some (.inr (.inr 198)), some (.inl p2), some (.inl p3), some (.inl l4_1), some (.inl l5_2), some (.inl x7), dv o4, dv o5, dv o6]) (S' := []) (σ' := (SH L0, D)) (fun _ _ => rfl) ?_
      obtain ⟨x8, hx, hv⟩ := bnd hv
      refine ev_bind hx 7 (pc' := 36) (L' := fun x8 => [some (.inr (.inr 187)), some (.inr (.inr 198)), some (.inl p2), some (.inl p3), some (.inl l4_1), some (.inl l5_2), some (.inl x7), dv o4, dv o5, dv o6]) (S' := fun x8 => [.inl x8]) (σ' := fun x8 => (SH L0, D)) (fun _ _ => rfl) ?_
      have he0 := Option.some.inj hv
      subst he0
      exact ev_go 1 (pc' := 40) (L' := [some (.inr (.inr 187)), some (.inr (.inr 198)), some (.inl p2), some (.inl p3), some (.inl l4_1), some (.inl l5_2), some (.inl x7), dv o4, dv o5, dv o6]) (S' := [.inl x8]) (σ' := (SH L0, D)) (fun _ _ => rfl) hJ
    · refine ev_iff hc 6 (pc' := 39) (L' := [some (.inr (.inr 187)), some (.inr (.inr 198)), some (.inl p2), some (.inl p3), some (.inl l4_1), some (.inl l5_2), some (.inl x7), dv o4, dv o5, dv o6]) (S' := []) (σ' := (SH L0, D)) (fun _ _ => rfl) ?_
      have he0 := Option.some.inj hv
      subst he0
      exact ev_go 1 (pc' := 40) (L' := [some (.inr (.inr 187)), some (.inr (.inr 198)), some (.inl p2), some (.inl p3), some (.inl l4_1), some (.inl l5_2), some (.inl x7), dv o4, dv o5, dv o6]) (S' := [.inl (-1)]) (σ' := (SH L0, D)) (fun _ _ => rfl) hJ
  · refine ev_iff hc 3 (pc' := 128) (L' := [some (.inr (.inr 187)), some (.inr (.inr 198)), some (.inl p2), some (.inl p3), some (.inl l4_1), some (.inl l5_2), dv o3, dv o4, dv o5, dv o6]) (S' := []) (σ' := (SH L0, D)) (fun _ _ => rfl) ?_
    cases hb
    exact hK0 (some (.inl l5_2)) o3 o4 o5 o6
set_option maxRecDepth 100000 in
set_option maxHeartbeats 4000000 in
theorem e_X12_jumpsIn_187_199 (L0 d : Nat) (hd : 3 ≤ d) {p2 p3 : Int} {D : DT} {t0 : Int} (h : m_X12_jumpsIn 199 p2 p3 D = some t0) : Ret mtab d 187 [.inr (.inr 187), .inr (.inr 199), .inl p2, .inl p3] (SH L0, D) (some (.inl t0), (SH L0, D)) := by
  obtain ⟨d, rfl⟩ : ∃ e, d = e + 1 := ⟨d - 1, by omega⟩
  refine Ret.of (code := k_X12_jumpsIn) (ml := 10) rfl ?_
  show EvF mtab d k_X12_jumpsIn 0 [some (.inr (.inr 187)), some (.inr (.inr 199)), some (.inl p2), some (.inl p3), none, none, none, none, none, none] [] (SH L0, D) (some (.inl t0), (SH L0, D))
  unfold m_X12_jumpsIn at h
  obtain ⟨r, hr, h⟩ := bnd h
  have hX : (fun (r : Int) => ∀ (o26 : Option (Sum Int Nat)) (o27 : Option (Sum Int Nat)) (o28 : Option (Sum Int Nat)) (o29 : Option (Sum Int Nat)) (o30 : Option (Sum Int Nat)), EvF mtab d k_X12_jumpsIn 128 [some (.inr (.inr 187)), some (.inr (.inr 199)), some (.inl p2), some (.inl p3), some (.inl r), dv o26, dv o27, dv o28, dv o29, dv o30] [] (SH L0, D) (some (.inl t0), (SH L0, D))) r := by
    obtain ⟨l4_25, hre⟩ : ∃ q, q = r := ⟨r, rfl⟩
    subst hre
    intro o26 o27 o28 o29 o30
    show EvF mtab d k_X12_jumpsIn 128 [some (.inr (.inr 187)), some (.inr (.inr 199)), some (.inl p2), some (.inl p3), some (.inl l4_25), dv o26, dv o27, dv o28, dv o29, dv o30] [] (SH L0, D) (some (.inl t0), (SH L0, D))
    cases h
    exact ev_ret 2 (fun _ _ => rfl)
  clear h
  refine ev_go 4 (pc' := 6) (L' := [some (.inr (.inr 187)), some (.inr (.inr 199)), some (.inl p2), some (.inl p3), some (.inl 0), some (.inl 0), none, none, none, none]) (S' := []) (σ' := (SH L0, D)) (fun _ _ => rfl) ?_
  refine loop_ind (P := fun s => ∀ (o3 : Option (Sum Int Nat)) (o4 : Option (Sum Int Nat)) (o5 : Option (Sum Int Nat)) (o6 : Option (Sum Int Nat)), EvF mtab d k_X12_jumpsIn 6 [some (.inr (.inr 187)), some (.inr (.inr 199)), some (.inl p2), some (.inl p3), some (.inl s.1), some (.inl s.2), dv o3, dv o4, dv o5, dv o6] [] (SH L0, D) (some (.inl t0), (SH L0, D))) (X := fun r => ∀ (o26 : Option (Sum Int Nat)) (o27 : Option (Sum Int Nat)) (o28 : Option (Sum Int Nat)) (o29 : Option (Sum Int Nat)) (o30 : Option (Sum Int Nat)), EvF mtab d k_X12_jumpsIn 128 [some (.inr (.inr 187)), some (.inr (.inr 199)), some (.inl p2), some (.inl p3), some (.inl r), dv o26, dv o27, dv o28, dv o29, dv o30] [] (SH L0, D) (some (.inl t0), (SH L0, D))) hr hX ?_ none none none none
  clear hr hX
  intro s t hb hK0
  obtain ⟨l4_1, l5_2⟩ := s
  intro o3 o4 o5 o6
  show EvF mtab d k_X12_jumpsIn 6 [some (.inr (.inr 187)), some (.inr (.inr 199)), some (.inl p2), some (.inl p3), some (.inl l4_1), some (.inl l5_2), dv o3, dv o4, dv o5, dv o6] [] (SH L0, D) (some (.inl t0), (SH L0, D))
  unfold b_X12_jumpsIn_6 at hb
  rcases ite_or hb with ⟨hc, hb⟩ | ⟨hc, hb⟩
  · refine ev_ift hc 3 (pc' := 12) (L' := [some (.inr (.inr 187)), some (.inr (.inr 199)), some (.inl p2), some (.inl p3), some (.inl l4_1), some (.inl l5_2), dv o3, dv o4, dv o5, dv o6]) (S' := []) (σ' := (SH L0, D)) (fun _ _ => rfl) ?_
    obtain ⟨x7, hx, hb⟩ := bnd hb
    refine ev_bind hx 5 (pc' := 18) (L' := fun x7 => [some (.inr (.inr 187)), some (.inr (.inr 199)), some (.inl p2), some (.inl p3), some (.inl l4_1), some (.inl l5_2), dv o3, dv o4, dv o5, dv o6]) (S' := fun x7 => [.inl x7]) (σ' := fun x7 => (SH L0, D)) (fun _ _ => rfl) ?_
    obtain ⟨t9, hv, hb⟩ := bnd hb
    have hJ : EvF mtab d k_X12_jumpsIn 40 [some (.inr (.inr 187)), some (.inr (.inr 199)), some (.inl p2), some (.inl p3), some (.inl l4_1), some (.inl l5_2), some (.inl x7), dv o4, dv o5, dv o6] [.inl t9] (SH L0, D) (some (.inl t0), (SH L0, D)) := by
      obtain ⟨r, hr, hb⟩ := bnd hb
      have hX : (fun (r : Int) => ∀ (o23 : Option (Sum Int Nat)) (o24 : Option (Sum Int Nat)), EvF mtab d k_X12_jumpsIn 122 [some (.inr (.inr 187)), some (.inr (.inr 199)), some (.inl p2), some (.inl p3), some (.inl r), some (.inl l5_2), some (.inl x7), some (.inl t9), dv o23, dv o24] [] (SH L0, D) (some (.inl t0), (SH L0, D))) r := by
        obtain ⟨l4_22, hre⟩ : ∃ q, q = r := ⟨r, rfl⟩
        subst hre
        intro o23 o24
        show EvF mtab d k_X12_jumpsIn 122 [some (.inr (.inr 187)), some (.inr (.inr 199)), some (.inl p2), some (.inl p3), some (.inl l4_22), some (.inl l5_2), some (.inl x7), some (.inl t9), dv o23, dv o24] [] (SH L0, D) (some (.inl t0), (SH L0, D))
        cases hb
        exact ev_go 2 (pc' := 6) (L' := [some (.inr (.inr 187)), some (.inr (.inr 199)), some (.inl p2), some (.inl p3), some (.inl l4_22), some (.inl (w32 (l5_2 + 1))), some (.inl x7), some (.inl t9), dv o23, dv o24]) (S' := []) (σ' := (SH L0, D)) (fun _ _ => rfl) (hK0 (some (.inl x7)) (some (.inl t9)) o23 o24)
      clear hb
      refine ev_go 3 (pc' := 45) (L' := [some (.inr (.inr 187)), some (.inr (.inr 199)), some (.inl p2), some (.inl p3), some (.inl l4_1), some (.inl l5_2), some (.inl x7), some (.inl t9), some (.inl 0), dv o6]) (S' := []) (σ' := (SH L0, D)) (fun _ _ => rfl) ?_
      refine loop_ind (P := fun s => ∀ (o12 : Option (Sum Int Nat)), EvF mtab d k_X12_jumpsIn 45 [some (.inr (.inr 187)), some (.inr (.inr 199)), some (.inl p2), some (.inl p3), some (.inl s.1), some (.inl l5_2), some (.inl x7), some (.inl t9), some (.inl s.2), dv o12] [] (SH L0, D) (some (.inl t0), (SH L0, D))) (X := fun r => ∀ (o23 : Option (Sum Int Nat)) (o24 : Option (Sum Int Nat)), EvF mtab d k_X12_jumpsIn 122 [some (.inr (.inr 187)), some (.inr (.inr 199)), some (.inl p2), some (.inl p3), some (.inl r), some (.inl l5_2), some (.inl x7), some (.inl t9), dv o23, dv o24] [] (SH L0, D) (some (.inl t0), (SH L0, D))) hr hX ?_ o6
      clear hr hX
      intro s t hb hK1
      obtain ⟨l4_10, l8_11⟩ := s
      intro o12
      show EvF mtab d k_X12_jumpsIn 45 [some (.inr (.inr 187)), some (.inr (.inr 199)), some (.inl p2), some (.inl p3), some (.inl l4_10), some (.inl l5_2), some (.inl x7), some (.inl t9), some (.inl l8_11), dv o12] [] (SH L0, D) (some (.inl t0), (SH L0, D))
      unfold b_X12_jumpsIn_45 at hb
      obtain ⟨x13, hx, hb⟩ := bnd hb
      refine ev_call (e_X12_endOf L0 d (by omega) hx) 3 (pc' := 51) (L' := [some (.inr (.inr 187)), some (.inr (.inr 199)), some (.inl p2), some (.inl p3), some (.inl l4_10), some (.inl l5_2), some (.inl x7), some (.inl t9), some (.inl l8_11), dv o12]) (S' := []) (fun _ _ => rfl) ?_
      rcases ite_or hb with ⟨hc, hb⟩ | ⟨hc, hb⟩
      · refine ev_ift hc 1 (pc' := 122) (L' := [some (.inr (.inr 187)), some (.inr (.inr 199)), some (.inl p2), some (.inl p3), some (.inl l4_10), some (.inl l5_2), some (.inl x7), some (.inl t9), some (.inl l8_11), dv o12]) (S' := []) (σ' := (SH L0, D)) (fun _ _ => rfl) ?_
        cases hb
        exact hK1 (some (.inl l8_11)) o12
      · refine ev_iff hc 1 (pc' := 54) (L' := [some (.inr (.inr 187)), some (.inr (.inr 199)), some (.inl p2), some (.inl p3), some (.inl l4_10), some (.inl l5_2), some (.inl x7), some (.inl t9), some (.inl l8_11), dv o12]) (S' := []) (σ' := (SH L0, D)) (fun _ _ => rfl) ?_
        obtain ⟨x14, hx, hb⟩ := bnd hb
        refine ev_call (e_X12_arcsOf L0 d (by omega) hx) 4 (pc' := 62) (L' := [some (.inr (.inr 187)), some (.inr (.inr 199)), some (.inl p2), some (.inl p3), some (.inl l4_10), some (.inl l5_2), some (.inl x7), some (.inl t9), some (.inl l8_11), dv o12]) (S' := [.inl l8_11]) (fun _ _ => rfl) ?_
        rcases ite_or hb with ⟨hc, hb⟩ | ⟨hc, hb⟩
        · refine ev_ift hc 1 (pc' := 65) (L' := [some (.inr (.inr 187)), some (.inr (.inr 199)), some (.inl p2), some (.inl p3), some (.inl l4_10), some (.inl l5_2), some (.inl x7), some (.inl t9), some (.inl l8_11), dv o12]) (S' := []) (σ' := (SH L0, D)) (fun _ _ => rfl) ?_
          obtain ⟨x15, hx, hb⟩ := bnd hb
          refine ev_call (e_X12_firstArc L0 d (by omega) hx) 3 (pc' := 71) (L' := [some (.inr (.inr 187)), some (.inr (.inr 199)), some (.inl p2), some (.inl p3), some (.inl l4_10), some (.inl l5_2), some (.inl x7), some (.inl t9), some (.inl l8_11), dv o12]) (S' := []) (fun _ _ => rfl) ?_
          obtain ⟨t21, hv, hb⟩ := bnd hb
          have hJ : EvF mtab d k_X12_jumpsIn 113 [some (.inr (.inr 187)), some (.inr (.inr 199)), some (.inl p2), some (.inl p3), some (.inl l4_10), some (.inl l5_2), some (.inl x7), some (.inl t9), some (.inl l8_11), some (.inl (w32 (x15 + l8_11)))] [.inl t21, .inl l4_10] (SH L0, D) (some (.inl t0), (SH L0, D)) := by
            cases hb
            exact ev_go 4 (pc' := 45) (L' := [some (.inr (.inr 187)), some (.inr (.inr 199)), some (.inl p2), some (.inl p3), some (.inl (w32 (l4_10 + t21))), some (.inl l5_2), some (.inl x7), some (.inl t9), some (.inl (w32 (l8_11 + 1))), some (.inl (w32 (x15 + l8_11)))]) (S' := []) (σ' := (SH L0, D)) (fun _ _ => rfl) (hK1 (some (.inl (w32 (x15 + l8_11)))))
          clear hb
          rcases ite_or hv with ⟨hc, hv⟩ | ⟨hc, hv⟩
          · refine ev_ift hc 6 (pc' := 103) (L' := [some (.inr (.inr 187)), some (.inr (.inr 199)), some (.inl p2), some (.inl p3), some (.inl l4_10), some (.inl l5_2), some (.inl x7), some (.inl t9), some (.inl l8_11), some (.inl (w32 (x15 + l8_11)))]) (S' := [.inl l4_10]) (σ' := (SH L0, D)) (fun _ _ => rfl) ?_
            obtain ⟨x16, hx, hv⟩ := bnd hv
            refine ev_bind hx 4 (pc' := 110) (L' := fun x16 => [some (.inr (.inr 187)), some (.inr (.inr 199)), some (.inl p2), some (.inl p3), some (.inl l4_10), some (.inl l5_2), some (.inl x7), some (.inl t9), some (.inl l8_11), some (.inl (w32 (x15 + l8_11)))]) (S' := fun x16 => [.inl x16, .inl l4_10]) (σ' := fun x16 => (SH L0, D)) (fun _ _ => rfl) ?_
            obtain ⟨x17, hx, hv⟩ := bnd hv
            refine ev_call (e_X12_whole L0 d (by omega) hx) 1 (pc' := 113) (L' := [some (.inr (.inr 187)), some (.inr (.inr 199)), some (.inl p2), some (.inl p3), some (.inl l4_10), some (.inl l5_2), some (.inl x7), some (.inl t9), some (.inl l8_11), some (.inl (w32 (x15 + l8_11)))]) (S' := [.inl l4_10]) (fun _ _ => rfl) ?_
            have he0 := Option.some.inj hv
            subst he0
            exact hJ
          · refine ev_iff hc 6 (pc' := 83) (L' := [some (.inr (.inr 187)), some (.inr (.inr 199)), some (.inl p2), some (.inl p3), some (.inl l4_10), some (.inl l5_2), some (.inl x7), some (.inl t9), some (.inl l8_11), some (.inl (w32 (x15 + l8_11)))]) (S' := [.inl l4_10]) (σ' := (SH L0, D)) (fun _ _ => rfl) ?_
            obtain ⟨x18, hx, hv⟩ := bnd hv
            refine ev_bind hx 6 (pc' := 94) (L' := fun x18 => [some (.inr (.inr 187)), some (.inr (.inr 199)), some (.inl p2), some (.inl p3), some (.inl l4_10), some (.inl l5_2), some (.inl x7), some (.inl t9), some (.inl l8_11), some (.inl (w32 (x15 + l8_11)))]) (S' := fun x18 => [.inl x18, .inl l4_10]) (σ' := fun x18 => (SH L0, D)) (fun _ _ => rfl) ?_
            rcases ite_or hv with ⟨hc, hv⟩ | ⟨hc, hv⟩
            · refine ev_ift hc 2 (pc' := 99) (L' := [some (.inr (.inr 187)), some (.inr (.inr 199)), some (.inl p2), some (.inl p3), some (.inl l4_10), some (.inl l5_2), some (.inl x7), some (.inl t9), some (.inl l8_11), some (.inl (w32 (x15 + l8_11)))]) (S' := [.inl l4_10]) (σ' := (SH L0, D)) (fun _ _ => rfl) ?_
              have he0 := Option.some.inj hv
              subst he0
              exact ev_go 2 (pc' := 113) (L' := [some (.inr (.inr 187)), some (.inr (.inr 199)), some (.inl p2), some (.inl p3), some (.inl l4_10), some (.inl l5_2), some (.inl x7), some (.inl t9), some (.inl l8_11), some (.inl (w32 (x15 + l8_11)))]) (S' := [.inl 0, .inl l4_10]) (σ' := (SH L0, D)) (fun _ _ => rfl) hJ
            · refine ev_iff hc 2 (pc' := 103) (L' := [some (.inr (.inr 187)), some (.inr (.inr 199)), some (.inl p2), some (.inl p3), some (.inl l4_10), some (.inl l5_2), some (.inl x7), some (.inl t9), some (.inl l8_11), some (.inl (w32 (x15 + l8_11)))]) (S' := [.inl l4_10]) (σ' := (SH L0, D)) (fun _ _ => rfl) ?_
              obtain ⟨x19, hx, hv⟩ := bnd hv
              refine ev_bind hx 4 (pc' := 110) (L' := fun x19 => [some (.inr (.inr 187)), some (.inr (.inr 199)), some (.inl p2), some (.inl p3), some (.inl l4_10), some (.inl l5_2), some (.inl x7), some (.inl t9), some (.inl l8_11), some (.inl (w32 (x15 + l8_11)))]) (S' := fun x19 => [.inl x19, .inl l4_10]) (σ' := fun x19 => (SH L0, D)) (fun _ _ => rfl) ?_
              obtain ⟨x20, hx, hv⟩ := bnd hv
              refine ev_call (e_X12_whole L0 d (by omega) hx) 1 (pc' := 113) (L' := [some (.inr (.inr 187)), some (.inr (.inr 199)), some (.inl p2), some (.inl p3), some (.inl l4_10), some (.inl l5_2), some (.inl x7), some (.inl t9), some (.inl l8_11), some (.inl (w32 (x15 + l8_11)))]) (S' := [.inl l4_10]) (fun _ _ => rfl) ?_
              have he0 := Option.some.inj hv
              subst he0
              exact hJ
        · refine ev_iff hc 1 (pc' := 122) (L' := [some (.inr (.inr 187)), some (.inr (.inr 199)), some (.inl p2), some (.inl p3), some (.inl l4_10), some (.inl l5_2), some (.inl x7), some (.inl t9), some (.inl l8_11), dv o12]) (S' := []) (σ' := (SH L0, D)) (fun _ _ => rfl) ?_
          cases hb
          exact hK1 (some (.inl l8_11)) o12
    clear hb
    rcases ite_or hv with ⟨hc, hv⟩ | ⟨hc, hv⟩
    · refine ev_ift hc 6 (pc' := 28) (L' := [some (.inr (.inr 187)), some (.inr (.inr 199)), some (.inl p2), some (.inl p3), some (.inl l4_1), some (.inl l5_2), some (.inl x7), dv o4, dv o5, dv o6]) (S' := []) (σ' := (SH L0, D)) (fun _ _ => rfl) ?_
      obtain ⟨x8, hx, hv⟩ := bnd hv
      refine ev_bind hx 7 (pc' := 36) (L' := fun x8 => [some (.inr (.inr 187)), some (.inr (.inr 199)), some (.inl p2), some (.inl p3), some (.inl l4_1), some (.inl l5_2), some (.inl x7), dv o4, dv o5, dv o6]) (S' := fun x8 => [.inl x8]) (σ' := fun x8 => (SH L0, D)) (fun _ _ => rfl) ?_
      have he0 := Option.some.inj hv
      subst he0
      exact ev_go 1 (pc' := 40) (L' := [some (.inr (.inr 187)), some (.inr (.inr 199)), some (.inl p2), some (.inl p3), some (.inl l4_1), some (.inl l5_2), some (.inl x7), dv o4, dv o5, dv o6]) (S' := [.inl x8]) (σ' := (SH L0, D)) (fun _ _ => rfl) hJ
    · refine ev_iff hc 6 (pc' := 39) (L' := [some (.inr (.inr 187)), some (.inr (.inr 199)), some (.inl p2), some (.inl p3), some (.inl l4_1), some (.inl l5_2), some (.inl x7), dv o4, dv o5, dv o6]) (S' := []) (σ' := (SH L0, D)) (fun _ _ => rfl) ?_
      have he0 := Option.some.inj hv
      subst he0
      exact ev_go 1 (pc' := 40) (L' := [some (.inr (.inr 187)), some (.inr (.inr 199)), some (.inl p2), some (.inl p3), some (.inl l4_1), some (.inl l5_2), some (.inl x7), dv o4, dv o5, dv o6]) (S' := [.inl (-1)]) (σ' := (SH L0, D)) (fun _ _ => rfl) hJ
  · refine ev_iff hc 3 (pc' := 128) (L' := [some (.inr (.inr 187)), some (.inr (.inr 199)), some (.inl p2), some (.inl p3), some (.inl l4_1), some (.inl l5_2), dv o3, dv o4, dv o5, dv o6]) (S' := []) (σ' := (SH L0, D)) (fun _ _ => rfl) ?_
    cases hb
    exact hK0 (some (.inl l5_2)) o3 o4 o5 o6
set_option maxRecDepth 100000 in
set_option maxHeartbeats 4000000 in
theorem e_X12_jumpsIn_187_224 (L0 d : Nat) (hd : 3 ≤ d) {p2 p3 : Int} {D : DT} {t0 : Int} (h : m_X12_jumpsIn 224 p2 p3 D = some t0) : Ret mtab d 187 [.inr (.inr 187), .inr (.inr 224), .inl p2, .inl p3] (SH L0, D) (some (.inl t0), (SH L0, D)) := by
  obtain ⟨d, rfl⟩ : ∃ e, d = e + 1 := ⟨d - 1, by omega⟩
  refine Ret.of (code := k_X12_jumpsIn) (ml := 10) rfl ?_
  show EvF mtab d k_X12_jumpsIn 0 [some (.inr (.inr 187)), some (.inr (.inr 224)), some (.inl p2), some (.inl p3), none, none, none, none, none, none] [] (SH L0, D) (some (.inl t0), (SH L0, D))
  unfold m_X12_jumpsIn at h
  obtain ⟨r, hr, h⟩ := bnd h
  have hX : (fun (r : Int) => ∀ (o26 : Option (Sum Int Nat)) (o27 : Option (Sum Int Nat)) (o28 : Option (Sum Int Nat)) (o29 : Option (Sum Int Nat)) (o30 : Option (Sum Int Nat)), EvF mtab d k_X12_jumpsIn 128 [some (.inr (.inr 187)), some (.inr (.inr 224)), some (.inl p2), some (.inl p3), some (.inl r), dv o26, dv o27, dv o28, dv o29, dv o30] [] (SH L0, D) (some (.inl t0), (SH L0, D))) r := by
    obtain ⟨l4_25, hre⟩ : ∃ q, q = r := ⟨r, rfl⟩
    subst hre
    intro o26 o27 o28 o29 o30
    show EvF mtab d k_X12_jumpsIn 128 [some (.inr (.inr 187)), some (.inr (.inr 224)), some (.inl p2), some (.inl p3), some (.inl l4_25), dv o26, dv o27, dv o28, dv o29, dv o30] [] (SH L0, D) (some (.inl t0), (SH L0, D))
    cases h
    exact ev_ret 2 (fun _ _ => rfl)
  clear h
  refine ev_go 4 (pc' := 6) (L' := [some (.inr (.inr 187)), some (.inr (.inr 224)), some (.inl p2), some (.inl p3), some (.inl 0), some (.inl 0), none, none, none, none]) (S' := []) (σ' := (SH L0, D)) (fun _ _ => rfl) ?_
  refine loop_ind (P := fun s => ∀ (o3 : Option (Sum Int Nat)) (o4 : Option (Sum Int Nat)) (o5 : Option (Sum Int Nat)) (o6 : Option (Sum Int Nat)), EvF mtab d k_X12_jumpsIn 6 [some (.inr (.inr 187)), some (.inr (.inr 224)), some (.inl p2), some (.inl p3), some (.inl s.1), some (.inl s.2), dv o3, dv o4, dv o5, dv o6] [] (SH L0, D) (some (.inl t0), (SH L0, D))) (X := fun r => ∀ (o26 : Option (Sum Int Nat)) (o27 : Option (Sum Int Nat)) (o28 : Option (Sum Int Nat)) (o29 : Option (Sum Int Nat)) (o30 : Option (Sum Int Nat)), EvF mtab d k_X12_jumpsIn 128 [some (.inr (.inr 187)), some (.inr (.inr 224)), some (.inl p2), some (.inl p3), some (.inl r), dv o26, dv o27, dv o28, dv o29, dv o30] [] (SH L0, D) (some (.inl t0), (SH L0, D))) hr hX ?_ none none none none
  clear hr hX
  intro s t hb hK0
  obtain ⟨l4_1, l5_2⟩ := s
  intro o3 o4 o5 o6
  show EvF mtab d k_X12_jumpsIn 6 [some (.inr (.inr 187)), some (.inr (.inr 224)), some (.inl p2), some (.inl p3), some (.inl l4_1), some (.inl l5_2), dv o3, dv o4, dv o5, dv o6] [] (SH L0, D) (some (.inl t0), (SH L0, D))
  unfold b_X12_jumpsIn_6 at hb
  rcases ite_or hb with ⟨hc, hb⟩ | ⟨hc, hb⟩
  · refine ev_ift hc 3 (pc' := 12) (L' := [some (.inr (.inr 187)), some (.inr (.inr 224)), some (.inl p2), some (.inl p3), some (.inl l4_1), some (.inl l5_2), dv o3, dv o4, dv o5, dv o6]) (S' := []) (σ' := (SH L0, D)) (fun _ _ => rfl) ?_
    obtain ⟨x7, hx, hb⟩ := bnd hb
    refine ev_bind hx 5 (pc' := 18) (L' := fun x7 => [some (.inr (.inr 187)), some (.inr (.inr 224)), some (.inl p2), some (.inl p3), some (.inl l4_1), some (.inl l5_2), dv o3, dv o4, dv o5, dv o6]) (S' := fun x7 => [.inl x7]) (σ' := fun x7 => (SH L0, D)) (fun _ _ => rfl) ?_
    obtain ⟨t9, hv, hb⟩ := bnd hb
    have hJ : EvF mtab d k_X12_jumpsIn 40 [some (.inr (.inr 187)), some (.inr (.inr 224)), some (.inl p2), some (.inl p3), some (.inl l4_1), some (.inl l5_2), some (.inl x7), dv o4, dv o5, dv o6] [.inl t9] (SH L0, D) (some (.inl t0), (SH L0, D)) := by
      obtain ⟨r, hr, hb⟩ := bnd hb
      have hX : (fun (r : Int) => ∀ (o23 : Option (Sum Int Nat)) (o24 : Option (Sum Int Nat)), EvF mtab d k_X12_jumpsIn 122 [some (.inr (.inr 187)), some (.inr (.inr 224)), some (.inl p2), some (.inl p3), some (.inl r), some (.inl l5_2), some (.inl x7), some (.inl t9), dv o23, dv o24] [] (SH L0, D) (some (.inl t0), (SH L0, D))) r := by
        obtain ⟨l4_22, hre⟩ : ∃ q, q = r := ⟨r, rfl⟩
        subst hre
        intro o23 o24
        show EvF mtab d k_X12_jumpsIn 122 [some (.inr (.inr 187)), some (.inr (.inr 224)), some (.inl p2), some (.inl p3), some (.inl l4_22), some (.inl l5_2), some (.inl x7), some (.inl t9), dv o23, dv o24] [] (SH L0, D) (some (.inl t0), (SH L0, D))
        cases hb
        exact ev_go 2 (pc' := 6) (L' := [some (.inr (.inr 187)), some (.inr (.inr 224)), some (.inl p2), some (.inl p3), some (.inl l4_22), some (.inl (w32 (l5_2 + 1))), some (.inl x7), some (.inl t9), dv o23, dv o24]) (S' := []) (σ' := (SH L0, D)) (fun _ _ => rfl) (hK0 (some (.inl x7)) (some (.inl t9)) o23 o24)
      clear hb
      refine ev_go 3 (pc' := 45) (L' := [some (.inr (.inr 187)), some (.inr (.inr 224)), some (.inl p2), some (.inl p3), some (.inl l4_1), some (.inl l5_2), some (.inl x7), some (.inl t9), some (.inl 0), dv o6]) (S' := []) (σ' := (SH L0, D)) (fun _ _ => rfl) ?_
      refine loop_ind (P := fun s => ∀ (o12 : Option (Sum Int Nat)), EvF mtab d k_X12_jumpsIn 45 [some (.inr (.inr 187)), some (.inr (.inr 224)), some (.inl p2), some (.inl p3), some (.inl s.1), some (.inl l5_2), some (.inl x7), some (.inl t9), some (.inl s.2), dv o12] [] (SH L0, D) (some (.inl t0), (SH L0, D))) (X := fun r => ∀ (o23 : Option (Sum Int Nat)) (o24 : Option (Sum Int Nat)), EvF mtab d k_X12_jumpsIn 122 [some (.inr (.inr 187)), some (.inr (.inr 224)), some (.inl p2), some (.inl p3), some (.inl r), some (.inl l5_2), some (.inl x7), some (.inl t9), dv o23, dv o24] [] (SH L0, D) (some (.inl t0), (SH L0, D))) hr hX ?_ o6
      clear hr hX
      intro s t hb hK1
      obtain ⟨l4_10, l8_11⟩ := s
      intro o12
      show EvF mtab d k_X12_jumpsIn 45 [some (.inr (.inr 187)), some (.inr (.inr 224)), some (.inl p2), some (.inl p3), some (.inl l4_10), some (.inl l5_2), some (.inl x7), some (.inl t9), some (.inl l8_11), dv o12] [] (SH L0, D) (some (.inl t0), (SH L0, D))
      unfold b_X12_jumpsIn_45 at hb
      obtain ⟨x13, hx, hb⟩ := bnd hb
      refine ev_call (e_X12_endOf L0 d (by omega) hx) 3 (pc' := 51) (L' := [some (.inr (.inr 187)), some (.inr (.inr 224)), some (.inl p2), some (.inl p3), some (.inl l4_10), some (.inl l5_2), some (.inl x7), some (.inl t9), some (.inl l8_11), dv o12]) (S' := []) (fun _ _ => rfl) ?_
      rcases ite_or hb with ⟨hc, hb⟩ | ⟨hc, hb⟩
      · refine ev_ift hc 1 (pc' := 122) (L' := [some (.inr (.inr 187)), some (.inr (.inr 224)), some (.inl p2), some (.inl p3), some (.inl l4_10), some (.inl l5_2), some (.inl x7), some (.inl t9), some (.inl l8_11), dv o12]) (S' := []) (σ' := (SH L0, D)) (fun _ _ => rfl) ?_
        cases hb
        exact hK1 (some (.inl l8_11)) o12
      · refine ev_iff hc 1 (pc' := 54) (L' := [some (.inr (.inr 187)), some (.inr (.inr 224)), some (.inl p2), some (.inl p3), some (.inl l4_10), some (.inl l5_2), some (.inl x7), some (.inl t9), some (.inl l8_11), dv o12]) (S' := []) (σ' := (SH L0, D)) (fun _ _ => rfl) ?_
        obtain ⟨x14, hx, hb⟩ := bnd hb
        refine ev_call (e_X12_arcsOf L0 d (by omega) hx) 4 (pc' := 62) (L' := [some (.inr (.inr 187)), some (.inr (.inr 224)), some (.inl p2), some (.inl p3), some (.inl l4_10), some (.inl l5_2), some (.inl x7), some (.inl t9), some (.inl l8_11), dv o12]) (S' := [.inl l8_11]) (fun _ _ => rfl) ?_
        rcases ite_or hb with ⟨hc, hb⟩ | ⟨hc, hb⟩
        · refine ev_ift hc 1 (pc' := 65) (L' := [some (.inr (.inr 187)), some (.inr (.inr 224)), some (.inl p2), some (.inl p3), some (.inl l4_10), some (.inl l5_2), some (.inl x7), some (.inl t9), some (.inl l8_11), dv o12]) (S' := []) (σ' := (SH L0, D)) (fun _ _ => rfl) ?_
          obtain ⟨x15, hx, hb⟩ := bnd hb
          refine ev_call (e_X12_firstArc L0 d (by omega) hx) 3 (pc' := 71) (L' := [some (.inr (.inr 187)), some (.inr (.inr 224)), some (.inl p2), some (.inl p3), some (.inl l4_10), some (.inl l5_2), some (.inl x7), some (.inl t9), some (.inl l8_11), dv o12]) (S' := []) (fun _ _ => rfl) ?_
          obtain ⟨t21, hv, hb⟩ := bnd hb
          have hJ : EvF mtab d k_X12_jumpsIn 113 [some (.inr (.inr 187)), some (.inr (.inr 224)), some (.inl p2), some (.inl p3), some (.inl l4_10), some (.inl l5_2), some (.inl x7), some (.inl t9), some (.inl l8_11), some (.inl (w32 (x15 + l8_11)))] [.inl t21, .inl l4_10] (SH L0, D) (some (.inl t0), (SH L0, D)) := by
            cases hb
            exact ev_go 4 (pc' := 45) (L' := [some (.inr (.inr 187)), some (.inr (.inr 224)), some (.inl p2), some (.inl p3), some (.inl (w32 (l4_10 + t21))), some (.inl l5_2), some (.inl x7), some (.inl t9), some (.inl (w32 (l8_11 + 1))), some (.inl (w32 (x15 + l8_11)))]) (S' := []) (σ' := (SH L0, D)) (fun _ _ => rfl) (hK1 (some (.inl (w32 (x15 + l8_11)))))
          clear hb
          rcases ite_or hv with ⟨hc, hv⟩ | ⟨hc, hv⟩
          · refine ev_ift hc 6 (pc' := 103) (L' := [some (.inr (.inr 187)), some (.inr (.inr 224)), some (.inl p2), some (.inl p3), some (.inl l4_10), some (.inl l5_2), some (.inl x7), some (.inl t9), some (.inl l8_11), some (.inl (w32 (x15 + l8_11)))]) (S' := [.inl l4_10]) (σ' := (SH L0, D)) (fun _ _ => rfl) ?_
            obtain ⟨x16, hx, hv⟩ := bnd hv
            refine ev_bind hx 4 (pc' := 110) (L' := fun x16 => [some (.inr (.inr 187)), some (.inr (.inr 224)), some (.inl p2), some (.inl p3), some (.inl l4_10), some (.inl l5_2), some (.inl x7), some (.inl t9), some (.inl l8_11), some (.inl (w32 (x15 + l8_11)))]) (S' := fun x16 => [.inl x16, .inl l4_10]) (σ' := fun x16 => (SH L0, D)) (fun _ _ => rfl) ?_
            obtain ⟨x17, hx, hv⟩ := bnd hv
            refine ev_call (e_X12_whole L0 d (by omega) hx) 1 (pc' := 113) (L' := [some (.inr (.inr 187)), some (.inr (.inr 224)), some (.inl p2), some (.inl p3), some (.inl l4_10), some (.inl l5_2), some (.inl x7), some (.inl t9), some (.inl l8_11), some (.inl (w32 (x15 + l8_11)))]) (S' := [.inl l4_10]) (fun _ _ => rfl) ?_
            have he0 := Option.some.inj hv
            subst he0
            exact hJ
          · refine ev_iff hc 6 (pc' := 83) (L' := [some (.inr (.inr 187)), some (.inr (.inr 224)), some (.inl p2), some (.inl p3), some (.inl l4_10), some (.inl l5_2), some (.inl x7), some (.inl t9), some (.inl l8_11), some (.inl (w32 (x15 + l8_11)))]) (S' := [.inl l4_10]) (σ' := (SH L0, D)) (fun _ _ => rfl) ?_
            obtain ⟨x18, hx, hv⟩ := bnd hv
            refine ev_bind hx 6 (pc' := 94) (L' := fun x18 => [some (.inr (.inr 187)), some (.inr (.inr 224)), some (.inl p2), some (.inl p3), some (.inl l4_10), some (.inl l5_2), some (.inl x7), some (.inl t9), some (.inl l8_11), some (.inl (w32 (x15 + l8_11)))]) (S' := fun x18 => [.inl x18, .inl l4_10]) (σ' := fun x18 => (SH L0, D)) (fun _ _ => rfl) ?_
            rcases ite_or hv with ⟨hc, hv⟩ | ⟨hc, hv⟩
            · refine ev_ift hc 2 (pc' := 99) (L' := [some (.inr (.inr 187)), some (.inr (.inr 224)), some (.inl p2), some (.inl p3), some (.inl l4_10), some (.inl l5_2), some (.inl x7), some (.inl t9), some (.inl l8_11), some (.inl (w32 (x15 + l8_11)))]) (S' := [.inl l4_10]) (σ' := (SH L0, D)) (fun _ _ => rfl) ?_
              have he0 := Option.some.inj hv
              subst he0
              exact ev_go 2 (pc' := 113) (L' := [some (.inr (.inr 187)), some (.inr (.inr 224)), some (.inl p2), some (.inl p3), some (.inl l4_10), some (.inl l5_2), some (.inl x7), some (.inl t9), some (.inl l8_11), some (.inl (w32 (x15 + l8_11)))]) (S' := [.inl 0, .inl l4_10]) (σ' := (SH L0, D)) (fun _ _ => rfl) hJ
            · refine ev_iff hc 2 (pc' := 103) (L' := [some (.inr (.inr 187)), some (.inr (.inr 224)), some (.inl p2), some (.inl p3), some (.inl l4_10), some (.inl l5_2), some (.inl x7), some (.inl t9), some (.inl l8_11), some (.inl (w32 (x15 + l8_11)))]) (S' := [.inl l4_10]) (σ' := (SH L0, D)) (fun _ _ => rfl) ?_
              obtain ⟨x19, hx, hv⟩ := bnd hv
              refine ev_bind hx 4 (pc' := 110) (L' := fun x19 => [some (.inr (.inr 187)), some (.inr (.inr 224)), some (.inl p2), some (.inl p3), some (.inl l4_10), some (.inl l5_2), some (.inl x7), some (.inl t9), some (.inl l8_11), some (.inl (w32 (x15 + l8_11)))]) (S' := fun x19 => [.inl x19, .inl l4_10]) (σ' := fun x19 => (SH L0, D)) (fun _ _ => rfl) ?_
              obtain ⟨x20, hx, hv⟩ := bnd hv
              refine ev_call (e_X12_whole L0 d (by omega) hx) 1 (pc' := 113) (L' := [some (.inr (.inr 187)), some (.inr (.inr 224)), some (.inl p2), some (.inl p3), some (.inl l4_10), some (.inl l5_2), some (.inl x7), some (.inl t9), some (.inl l8_11), some (.inl (w32 (x15 + l8_11)))]) (S' := [.inl l4_10]) (fun _ _ => rfl) ?_
              have he0 := Option.some.inj hv
              subst he0
              exact hJ
        · refine ev_iff hc 1 (pc' := 122) (L' := [some (.inr (.inr 187)), some (.inr (.inr 224)), some (.inl p2), some (.inl p3), some (.inl l4_10), some (.inl l5_2), some (.inl x7), some (.inl t9), some (.inl l8_11), dv o12]) (S' := []) (σ' := (SH L0, D)) (fun _ _ => rfl) ?_
          cases hb
          exact hK1 (some (.inl l8_11)) o12
    clear hb
    rcases ite_or hv with ⟨hc, hv⟩ | ⟨hc, hv⟩
    · refine ev_ift hc 6 (pc' := 28) (L' := [some (.inr (.inr 187)), some (.inr (.inr 224)), some (.inl p2), some (.inl p3), some (.inl l4_1), some (.inl l5_2), some (.inl x7), dv o4, dv o5, dv o6]) (S' := []) (σ' := (SH L0, D)) (fun _ _ => rfl) ?_
      obtain ⟨x8, hx, hv⟩ := bnd hv
      refine ev_bind hx 7 (pc' := 36) (L' := fun x8 => [some (.inr (.inr 187)), some (.inr (.inr 224)), some (.inl p2), some (.inl p3), some (.inl l4_1), some (.inl l5_2), some (.inl x7), dv o4, dv o5, dv o6]) (S' := fun x8 => [.inl x8]) (σ' := fun x8 => (SH L0, D)) (fun _ _ => rfl) ?_
      have he0 := Option.some.inj hv
      subst he0
      exact ev_go 1 (pc' := 40) (L' := [some (.inr (.inr 187)), some (.inr (.inr 224)), some (.inl p2), some (.inl p3), some (.inl l4_1), some (.inl l5_2), some (.inl x7), dv o4, dv o5, dv o6]) (S' := [.inl x8]) (σ' := (SH L0, D)) (fun _ _ => rfl) hJ
    · refine ev_iff hc 6 (pc' := 39) (L' := [some (.inr (.inr 187)), some (.inr (.inr 224)), some (.inl p2), some (.inl p3), some (.inl l4_1), some (.inl l5_2), some (.inl x7), dv o4, dv o5, dv o6]) (S' := []) (σ' := (SH L0, D)) (fun _ _ => rfl) ?_
      have he0 := Option.some.inj hv
      subst he0
      exact ev_go 1 (pc' := 40) (L' := [some (.inr (.inr 187)), some (.inr (.inr 224)), some (.inl p2), some (.inl p3), some (.inl l4_1), some (.inl l5_2), some (.inl x7), dv o4, dv o5, dv o6]) (S' := [.inl (-1)]) (σ' := (SH L0, D)) (fun _ _ => rfl) hJ
  · refine ev_iff hc 3 (pc' := 128) (L' := [some (.inr (.inr 187)), some (.inr (.inr 224)), some (.inl p2), some (.inl p3), some (.inl l4_1), some (.inl l5_2), dv o3, dv o4, dv o5, dv o6]) (S' := []) (σ' := (SH L0, D)) (fun _ _ => rfl) ?_
    cases hb
    exact hK0 (some (.inl l5_2)) o3 o4 o5 o6
set_option maxRecDepth 100000 in
set_option maxHeartbeats 4000000 in
theorem e_X12_firstOf (L0 d : Nat) (hd : 2 ≤ d) {p1 : Int} {D : DT} {t0 : Int} (h : m_X12_firstOf p1 D = some t0) : Ret mtab d 188 [.inr (.inr 187), .inl p1] (SH L0, D) (some (.inl t0), (SH L0, D)) := by
  obtain ⟨d, rfl⟩ : ∃ e, d = e + 1 := ⟨d - 1, by omega⟩
  refine Ret.of (code := k_X12_firstOf) (ml := 6) rfl ?_
  show EvF mtab d k_X12_firstOf 0 [some (.inr (.inr 187)), some (.inl p1), none, none, none, none] [] (SH L0, D) (some (.inl t0), (SH L0, D))
  unfold m_X12_firstOf at h
  obtain ⟨x1, hx, h⟩ := bnd h
  refine ev_bind hx 6 (pc' := 8) (L' := fun x1 => [some (.inr (.inr 187)), some (.inl p1), some (.inl p1), none, none, none]) (S' := fun x1 => [.inl x1]) (σ' := fun x1 => (SH L0, D)) (fun _ _ => rfl) ?_
  obtain ⟨t2, hv, h⟩ := bnd h
  have hJ : EvF mtab d k_X12_firstOf 16 [some (.inr (.inr 187)), some (.inl p1), some (.inl p1), none, none, none] [.inl t2] (SH L0, D) (some (.inl t0), (SH L0, D)) := by
    obtain ⟨r, hr, h⟩ := bnd h
    have hX : (fun (r : Int) => ∀ (o17 : Option (Sum Int Nat)) (o18 : Option (Sum Int Nat)) (o19 : Option (Sum Int Nat)), EvF mtab d k_X12_firstOf 78 [some (.inr (.inr 187)), some (.inl p1), some (.inl r), dv o17, dv o18, dv o19] [] (SH L0, D) (some (.inl t0), (SH L0, D))) r := by
      obtain ⟨l2_16, hre⟩ : ∃ q, q = r := ⟨r, rfl⟩
      subst hre
      intro o17 o18 o19
      show EvF mtab d k_X12_firstOf 78 [some (.inr (.inr 187)), some (.inl p1), some (.inl l2_16), dv o17, dv o18, dv o19] [] (SH L0, D) (some (.inl t0), (SH L0, D))
      cases h
      exact ev_ret 2 (fun _ _ => rfl)
    clear h
    refine ev_go 1 (pc' := 17) (L' := [some (.inr (.inr 187)), some (.inl p1), some (.inl p1), some (.inl t2), none, none]) (S' := []) (σ' := (SH L0, D)) (fun _ _ => rfl) ?_
    refine loop_ind (P := fun s => ∀ (o5 : Option (Sum Int Nat)) (o6 : Option (Sum Int Nat)), EvF mtab d k_X12_firstOf 17 [some (.inr (.inr 187)), some (.inl p1), some (.inl s.1), some (.inl s.2), dv o5, dv o6] [] (SH L0, D) (some (.inl t0), (SH L0, D))) (X := fun r => ∀ (o17 : Option (Sum Int Nat)) (o18 : Option (Sum Int Nat)) (o19 : Option (Sum Int Nat)), EvF mtab d k_X12_firstOf 78 [some (.inr (.inr 187)), some (.inl p1), some (.inl r), dv o17, dv o18, dv o19] [] (SH L0, D) (some (.inl t0), (SH L0, D))) hr hX ?_ none none
    clear hr hX
    intro s t hb hK0
    obtain ⟨l2_3, l3_4⟩ := s
    intro o5 o6
    show EvF mtab d k_X12_firstOf 17 [some (.inr (.inr 187)), some (.inl p1), some (.inl l2_3), some (.inl l3_4), dv o5, dv o6] [] (SH L0, D) (some (.inl t0), (SH L0, D))
    unfold b_X12_firstOf_17 at hb
    rcases ite_or hb with ⟨hc, hb⟩ | ⟨hc, hb⟩
    · refine ev_ift hc 2 (pc' := 78) (L' := [some (.inr (.inr 187)), some (.inl p1), some (.inl l2_3), some (.inl l3_4), dv o5, dv o6]) (S' := []) (σ' := (SH L0, D)) (fun _ _ => rfl) ?_
      cases hb
      exact hK0 (some (.inl l3_4)) o5 o6
    · refine ev_iff hc 2 (pc' := 21) (L' := [some (.inr (.inr 187)), some (.inl p1), some (.inl l2_3), some (.inl l3_4), dv o5, dv o6]) (S' := []) (σ' := (SH L0, D)) (fun _ _ => rfl) ?_
      obtain ⟨r, hr, hb⟩ := bnd hb
      have hX : (fun (r : Int) => ∀ (o13 : Option (Sum Int Nat)), EvF mtab d k_X12_firstOf 57 [some (.inr (.inr 187)), some (.inl p1), some (.inl l2_3), some (.inl l3_4), some (.inl r), dv o13] [] (SH L0, D) (some (.inl t0), (SH L0, D))) r := by
        obtain ⟨l4_12, hre⟩ : ∃ q, q = r := ⟨r, rfl⟩
        subst hre
        intro o13
        show EvF mtab d k_X12_firstOf 57 [some (.inr (.inr 187)), some (.inl p1), some (.inl l2_3), some (.inl l3_4), some (.inl l4_12), dv o13] [] (SH L0, D) (some (.inl t0), (SH L0, D))
        obtain ⟨x14, hx, hb⟩ := bnd hb
        refine ev_bind hx 6 (pc' := 66) (L' := fun x14 => [some (.inr (.inr 187)), some (.inl p1), some (.inl l4_12), some (.inl l3_4), some (.inl l4_12), dv o13]) (S' := fun x14 => [.inl x14]) (σ' := fun x14 => (SH L0, D)) (fun _ _ => rfl) ?_
        obtain ⟨t15, hv, hb⟩ := bnd hb
        have hJ : EvF mtab d k_X12_firstOf 74 [some (.inr (.inr 187)), some (.inl p1), some (.inl l4_12), some (.inl l3_4), some (.inl l4_12), dv o13] [.inl t15] (SH L0, D) (some (.inl t0), (SH L0, D)) := by
          cases hb
          exact ev_go 2 (pc' := 17) (L' := [some (.inr (.inr 187)), some (.inl p1), some (.inl l4_12), some (.inl t15), some (.inl l4_12), dv o13]) (S' := []) (σ' := (SH L0, D)) (fun _ _ => rfl) (hK0 (some (.inl l4_12)) o13)
        clear hb
        rcases ite_or hv with ⟨hc, hv⟩ | ⟨hc, hv⟩
        · refine ev_ift hc 1 (pc' := 69) (L' := [some (.inr (.inr 187)), some (.inl p1), some (.inl l4_12), some (.inl l3_4), some (.inl l4_12), dv o13]) (S' := []) (σ' := (SH L0, D)) (fun _ _ => rfl) ?_
          have he0 := Option.some.inj hv
          subst he0
          exact ev_go 2 (pc' := 74) (L' := [some (.inr (.inr 187)), some (.inl p1), some (.inl l4_12), some (.inl l3_4), some (.inl l4_12), dv o13]) (S' := [.inl 1]) (σ' := (SH L0, D)) (fun _ _ => rfl) hJ
        · refine ev_iff hc 1 (pc' := 73) (L' := [some (.inr (.inr 187)), some (.inl p1), some (.inl l4_12), some (.inl l3_4), some (.inl l4_12), dv o13]) (S' := []) (σ' := (SH L0, D)) (fun _ _ => rfl) ?_
          have he0 := Option.some.inj hv
          subst he0
          exact ev_go 1 (pc' := 74) (L' := [some (.inr (.inr 187)), some (.inl p1), some (.inl l4_12), some (.inl l3_4), some (.inl l4_12), dv o13]) (S' := [.inl 0]) (σ' := (SH L0, D)) (fun _ _ => rfl) hJ
      clear hb
      refine ev_go 4 (pc' := 27) (L' := [some (.inr (.inr 187)), some (.inl p1), some (.inl l2_3), some (.inl l3_4), some (.inl (-1)), some (.inl 0)]) (S' := []) (σ' := (SH L0, D)) (fun _ _ => rfl) ?_
      refine loop_ind (P := fun s => EvF mtab d k_X12_firstOf 27 [some (.inr (.inr 187)), some (.inl p1), some (.inl l2_3), some (.inl l3_4), some (.inl s.1), some (.inl s.2)] [] (SH L0, D) (some (.inl t0), (SH L0, D))) (X := fun r => ∀ (o13 : Option (Sum Int Nat)), EvF mtab d k_X12_firstOf 57 [some (.inr (.inr 187)), some (.inl p1), some (.inl l2_3), some (.inl l3_4), some (.inl r), dv o13] [] (SH L0, D) (some (.inl t0), (SH L0, D))) hr hX ?_
      clear hr hX
      intro s t hb hK1
      obtain ⟨l4_7, l5_8⟩ := s
      show EvF mtab d k_X12_firstOf 27 [some (.inr (.inr 187)), some (.inl p1), some (.inl l2_3), some (.inl l3_4), some (.inl l4_7), some (.inl l5_8)] [] (SH L0, D) (some (.inl t0), (SH L0, D))
      unfold b_X12_firstOf_27 at hb
      obtain ⟨x9, hx, hb⟩ := bnd hb
      refine ev_call (e_X12_blocks L0 d (by omega) hx) 3 (pc' := 33) (L' := [some (.inr (.inr 187)), some (.inl p1), some (.inl l2_3), some (.inl l3_4), some (.inl l4_7), some (.inl l5_8)]) (S' := [.inl l5_8]) (fun _ _ => rfl) ?_
      rcases ite_or hb with ⟨hc, hb⟩ | ⟨hc, hb⟩
      · refine ev_ift hc 1 (pc' := 36) (L' := [some (.inr (.inr 187)), some (.inl p1), some (.inl l2_3), some (.inl l3_4), some (.inl l4_7), some (.inl l5_8)]) (S' := []) (σ' := (SH L0, D)) (fun _ _ => rfl) ?_
        obtain ⟨x10, hx, hb⟩ := bnd hb
        refine ev_bind hx 4 (pc' := 43) (L' := fun x10 => [some (.inr (.inr 187)), some (.inl p1), some (.inl l2_3), some (.inl l3_4), some (.inl l4_7), some (.inl l5_8)]) (S' := fun x10 => [.inl x10]) (σ' := fun x10 => (SH L0, D)) (fun _ _ => rfl) ?_
        obtain ⟨l4_11, hv, hb⟩ := bnd hb
        have hJ : EvF mtab d k_X12_firstOf 51 [some (.inr (.inr 187)), some (.inl p1), some (.inl l2_3), some (.inl l3_4), some (.inl l4_11), some (.inl l5_8)] [] (SH L0, D) (some (.inl t0), (SH L0, D)) := by
          cases hb
          exact ev_go 2 (pc' := 27) (L' := [some (.inr (.inr 187)), some (.inl p1), some (.inl l2_3), some (.inl l3_4), some (.inl l4_11), some (.inl (w32 (l5_8 + 1)))]) (S' := []) (σ' := (SH L0, D)) (fun _ _ => rfl) hK1
        clear hb
        rcases ite_or hv with ⟨hc, hv⟩ | ⟨hc, hv⟩
        · refine ev_ift hc 2 (pc' := 47) (L' := [some (.inr (.inr 187)), some (.inl p1), some (.inl l2_3), some (.inl l3_4), some (.inl l4_7), some (.inl l5_8)]) (S' := []) (σ' := (SH L0, D)) (fun _ _ => rfl) ?_
          have he0 := Option.some.inj hv
          subst he0
          exact ev_go 2 (pc' := 51) (L' := [some (.inr (.inr 187)), some (.inl p1), some (.inl l2_3), some (.inl l3_4), some (.inl l5_8), some (.inl l5_8)]) (S' := []) (σ' := (SH L0, D)) (fun _ _ => rfl) hJ
        · refine ev_iff hc 2 (pc' := 51) (L' := [some (.inr (.inr 187)), some (.inl p1), some (.inl l2_3), some (.inl l3_4), some (.inl l4_7), some (.inl l5_8)]) (S' := []) (σ' := (SH L0, D)) (fun _ _ => rfl) ?_
          have he0 := Option.some.inj hv
          subst he0
          exact hJ
      · refine ev_iff hc 1 (pc' := 57) (L' := [some (.inr (.inr 187)), some (.inl p1), some (.inl l2_3), some (.inl l3_4), some (.inl l4_7), some (.inl l5_8)]) (S' := []) (σ' := (SH L0, D)) (fun _ _ => rfl) ?_
        cases hb
        exact hK1 (some (.inl l5_8))
  clear h
  rcases ite_or hv with ⟨hc, hv⟩ | ⟨hc, hv⟩
  · refine ev_ift hc 1 (pc' := 11) (L' := [some (.inr (.inr 187)), some (.inl p1), some (.inl p1), none, none, none]) (S' := []) (σ' := (SH L0, D)) (fun _ _ => rfl) ?_
    have he0 := Option.some.inj hv
    subst he0
    exact ev_go 2 (pc' := 16) (L' := [some (.inr (.inr 187)), some (.inl p1), some (.inl p1), none, none, none]) (S' := [.inl 1]) (σ' := (SH L0, D)) (fun _ _ => rfl) hJ
  · refine ev_iff hc 1 (pc' := 15) (L' := [some (.inr (.inr 187)), some (.inl p1), some (.inl p1), none, none, none]) (S' := []) (σ' := (SH L0, D)) (fun _ _ => rfl) ?_
    have he0 := Option.some.inj hv
    subst he0
    exact ev_go 1 (pc' := 16) (L' := [some (.inr (.inr 187)), some (.inl p1), some (.inl p1), none, none, none]) (S' := [.inl 0]) (σ' := (SH L0, D)) (fun _ _ => rfl) hJ
set_option maxRecDepth 100000 in
set_option maxHeartbeats 4000000 in
theorem e_X12_nextByFlow (L0 d : Nat) (hd : 3 ≤ d) {p1 : Int} {D : DT} {t0 : Int} (h : m_X12_nextByFlow p1 D = some t0) : Ret mtab d 189 [.inr (.inr 187), .inl p1] (SH L0, D) (some (.inl t0), (SH L0, D)) := by
  obtain ⟨d, rfl⟩ : ∃ e, d = e + 1 := ⟨d - 1, by omega⟩
  refine Ret.of (code := k_X12_nextByFlow) (ml := 4) rfl ?_
  show EvF mtab d k_X12_nextByFlow 0 [some (.inr (.inr 187)), some (.inl p1), none, none] [] (SH L0, D) (some (.inl t0), (SH L0, D))
  unfold m_X12_nextByFlow at h
  obtain ⟨x1, hx, h⟩ := bnd h
  refine ev_call (e_X12_funs L0 d (by omega) hx) 4 (pc' := 6) (L' := [some (.inr (.inr 187)), some (.inl p1), some (.inl (-1)), none]) (S' := []) (fun _ _ => rfl) ?_
  obtain ⟨r, hr, h⟩ := bnd h
  have hX : (fun (r : Int) => ∀ (o13 : Option (Sum Int Nat)), EvF mtab d k_X12_nextByFlow 82 [some (.inr (.inr 187)), some (.inl p1), some (.inl r), dv o13] [] (SH L0, D) (some (.inl t0), (SH L0, D))) r := by
    obtain ⟨l2_12, hre⟩ : ∃ q, q = r := ⟨r, rfl⟩
    subst hre
    intro o13
    show EvF mtab d k_X12_nextByFlow 82 [some (.inr (.inr 187)), some (.inl p1), some (.inl l2_12), dv o13] [] (SH L0, D) (some (.inl t0), (SH L0, D))
    cases h
    exact ev_ret 2 (fun _ _ => rfl)
  clear h
  refine ev_go 1 (pc' := 7) (L' := [some (.inr (.inr 187)), some (.inl p1), some (.inl (-1)), some (.inl x1)]) (S' := []) (σ' := (SH L0, D)) (fun _ _ => rfl) ?_
  refine loop_ind (P := fun s => EvF mtab d k_X12_nextByFlow 7 [some (.inr (.inr 187)), some (.inl p1), some (.inl s.1), some (.inl s.2)] [] (SH L0, D) (some (.inl t0), (SH L0, D))) (X := fun r => ∀ (o13 : Option (Sum Int Nat)), EvF mtab d k_X12_nextByFlow 82 [some (.inr (.inr 187)), some (.inl p1), some (.inl r), dv o13] [] (SH L0, D) (some (.inl t0), (SH L0, D))) hr hX ?_
  clear hr hX
  intro s t hb hK0
  obtain ⟨l2_2, l3_3⟩ := s
  show EvF mtab d k_X12_nextByFlow 7 [some (.inr (.inr 187)), some (.inl p1), some (.inl l2_2), some (.inl l3_3)] [] (SH L0, D) (some (.inl t0), (SH L0, D))
  unfold b_X12_nextByFlow_7 at hb
  obtain ⟨x4, hx, hb⟩ := bnd hb
  refine ev_call (e_X12_arcs L0 d (by omega) hx) 3 (pc' := 12) (L' := [some (.inr (.inr 187)), some (.inl p1), some (.inl l2_2), some (.inl l3_3)]) (S' := [.inl l3_3]) (fun _ _ => rfl) ?_
  rcases ite_or hb with ⟨hc, hb⟩ | ⟨hc, hb⟩
  · refine ev_ift hc 1 (pc' := 15) (L' := [some (.inr (.inr 187)), some (.inl p1), some (.inl l2_2), some (.inl l3_3)]) (S' := []) (σ' := (SH L0, D)) (fun _ _ => rfl) ?_
    obtain ⟨x5, hx, hb⟩ := bnd hb
    refine ev_bind hx 4 (pc' := 21) (L' := fun x5 => [some (.inr (.inr 187)), some (.inl p1), some (.inl l2_2), some (.inl l3_3)]) (S' := fun x5 => [.inl x5]) (σ' := fun x5 => (SH L0, D)) (fun _ _ => rfl) ?_
    obtain ⟨l2_11, hv, hb⟩ := bnd hb
    have hJ : EvF mtab d k_X12_nextByFlow 76 [some (.inr (.inr 187)), some (.inl p1), some (.inl l2_11), some (.inl l3_3)] [] (SH L0, D) (some (.inl t0), (SH L0, D)) := by
      cases hb
      exact ev_go 2 (pc' := 7) (L' := [some (.inr (.inr 187)), some (.inl p1), some (.inl l2_11), some (.inl (w32 (l3_3 + 1)))]) (S' := []) (σ' := (SH L0, D)) (fun _ _ => rfl) hK0
    clear hb
    rcases ite_or hv with ⟨hc, hv⟩ | ⟨hc, hv⟩
    · refine ev_ift hc 1 (pc' := 24) (L' := [some (.inr (.inr 187)), some (.inl p1), some (.inl l2_2), some (.inl l3_3)]) (S' := []) (σ' := (SH L0, D)) (fun _ _ => rfl) ?_
      obtain ⟨x6, hx, hv⟩ := bnd hv
      refine ev_call (e_X12_funOfArc L0 d (by omega) hx) 3 (pc' := 29) (L' := [some (.inr (.inr 187)), some (.inl p1), some (.inl l2_2), some (.inl l3_3)]) (S' := []) (fun _ _ => rfl) ?_
      rcases ite_or hv with ⟨hc, hv⟩ | ⟨hc, hv⟩
      · refine ev_ift hc 2 (pc' := 33) (L' := [some (.inr (.inr 187)), some (.inl p1), some (.inl l2_2), some (.inl l3_3)]) (S' := []) (σ' := (SH L0, D)) (fun _ _ => rfl) ?_
        obtain ⟨x7, hx, hv⟩ := bnd hv
        refine ev_bind hx 6 (pc' := 43) (L' := fun x7 => [some (.inr (.inr 187)), some (.inl p1), some (.inl l2_2), some (.inl l3_3)]) (S' := fun x7 => [.inl x7]) (σ' := fun x7 => (SH L0, D)) (fun _ _ => rfl) ?_
        rcases ite_or hv with ⟨hc, hv⟩ | ⟨hc, hv⟩
        · refine ev_ift hc 1 (pc' := 76) (L' := [some (.inr (.inr 187)), some (.inl p1), some (.inl l2_2), some (.inl l3_3)]) (S' := []) (σ' := (SH L0, D)) (fun _ _ => rfl) ?_
          have he0 := Option.some.inj hv
          subst he0
          exact hJ
        · refine ev_iff hc 1 (pc' := 46) (L' := [some (.inr (.inr 187)), some (.inl p1), some (.inl l2_2), some (.inl l3_3)]) (S' := []) (σ' := (SH L0, D)) (fun _ _ => rfl) ?_
          obtain ⟨x8, hx, hv⟩ := bnd hv
          refine ev_bind hx 4 (pc' := 52) (L' := fun x8 => [some (.inr (.inr 187)), some (.inl p1), some (.inl l2_2), some (.inl l3_3)]) (S' := fun x8 => [.inl x8]) (σ' := fun x8 => (SH L0, D)) (fun _ _ => rfl) ?_
          rcases ite_or hv with ⟨hc, hv⟩ | ⟨hc, hv⟩
          · refine ev_ift hc 1 (pc' := 55) (L' := [some (.inr (.inr 187)), some (.inl p1), some (.inl l2_2), some (.inl l3_3)]) (S' := []) (σ' := (SH L0, D)) (fun _ _ => rfl) ?_
            rcases ite_or hv with ⟨hc, hv⟩ | ⟨hc, hv⟩
            · refine ev_ift hc 2 (pc' := 74) (L' := [some (.inr (.inr 187)), some (.inl p1), some (.inl l2_2), some (.inl l3_3)]) (S' := []) (σ' := (SH L0, D)) (fun _ _ => rfl) ?_
              have he0 := Option.some.inj hv
              subst he0
              exact ev_go 2 (pc' := 76) (L' := [some (.inr (.inr 187)), some (.inl p1), some (.inl l3_3), some (.inl l3_3)]) (S' := []) (σ' := (SH L0, D)) (fun _ _ => rfl) hJ
            · refine ev_iff hc 2 (pc' := 59) (L' := [some (.inr (.inr 187)), some (.inl p1), some (.inl l2_2), some (.inl l3_3)]) (S' := []) (σ' := (SH L0, D)) (fun _ _ => rfl) ?_
              obtain ⟨x9, hx, hv⟩ := bnd hv
              refine ev_bind hx 4 (pc' := 65) (L' := fun x9 => [some (.inr (.inr 187)), some (.inl p1), some (.inl l2_2), some (.inl l3_3)]) (S' := fun x9 => [.inl x9]) (σ' := fun x9 => (SH L0, D)) (fun _ _ => rfl) ?_
              obtain ⟨x10, hx, hv⟩ := bnd hv
              refine ev_bind hx 4 (pc' := 71) (L' := fun x10 => [some (.inr (.inr 187)), some (.inl p1), some (.inl l2_2), some (.inl l3_3)]) (S' := fun x10 => [.inl x10, .inl x9]) (σ' := fun x10 => (SH L0, D)) (fun _ _ => rfl) ?_
              rcases ite_or hv with ⟨hc, hv⟩ | ⟨hc, hv⟩
              · refine ev_ift hc 1 (pc' := 74) (L' := [some (.inr (.inr 187)), some (.inl p1), some (.inl l2_2), some (.inl l3_3)]) (S' := []) (σ' := (SH L0, D)) (fun _ _ => rfl) ?_
                have he0 := Option.some.inj hv
                subst he0
                exact ev_go 2 (pc' := 76) (L' := [some (.inr (.inr 187)), some (.inl p1), some (.inl l3_3), some (.inl l3_3)]) (S' := []) (σ' := (SH L0, D)) (fun _ _ => rfl) hJ
              · refine ev_iff hc 1 (pc' := 76) (L' := [some (.inr (.inr 187)), some (.inl p1), some (.inl l2_2), some (.inl l3_3)]) (S' := []) (σ' := (SH L0, D)) (fun _ _ => rfl) ?_
                have he0 := Option.some.inj hv
                subst he0
                exact hJ
          · refine ev_iff hc 1 (pc' := 76) (L' := [some (.inr (.inr 187)), some (.inl p1), some (.inl l2_2), some (.inl l3_3)]) (S' := []) (σ' := (SH L0, D)) (fun _ _ => rfl) ?_
            have he0 := Option.some.inj hv
            subst he0
            exact hJ
      · refine ev_iff hc 2 (pc' := 76) (L' := [some (.inr (.inr 187)), some (.inl p1), some (.inl l2_2), some (.inl l3_3)]) (S' := []) (σ' := (SH L0, D)) (fun _ _ => rfl) ?_
        have he0 := Option.some.inj hv
        subst he0
        exact hJ
    · refine ev_iff hc 1 (pc' := 76) (L' := [some (.inr (.inr 187)), some (.inl p1), some (.inl l2_2), some (.inl l3_3)]) (S' := []) (σ' := (SH L0, D)) (fun _ _ => rfl) ?_
      have he0 := Option.some.inj hv
      subst he0
      exact hJ
  · refine ev_iff hc 1 (pc' := 82) (L' := [some (.inr (.inr 187)), some (.inl p1), some (.inl l2_2), some (.inl l3_3)]) (S' := []) (σ' := (SH L0, D)) (fun _ _ => rfl) ?_
    cases hb
    exact hK0 (some (.inl l3_3))
set_option maxRecDepth 100000 in
set_option maxHeartbeats 4000000 in
theorem e_X12_joinsChains (L0 d : Nat) (hd : 4 ≤ d) {p1 : Int} {D : DT} {t0 : DT} (h : m_X12_joinsChains p1 D = some t0) : Ret mtab d 190 [.inr (.inr 187), .inl p1] (SH L0, D) (none, (SH L0, t0)) := by
  obtain ⟨d, rfl⟩ : ∃ e, d = e + 1 := ⟨d - 1, by omega⟩
  refine Ret.of (code := k_X12_joinsChains) (ml := 5) rfl ?_
  show EvF mtab d k_X12_joinsChains 0 [some (.inr (.inr 187)), some (.inl p1), none, none, none] [] (SH L0, D) (none, (SH L0, t0))
  unfold m_X12_joinsChains at h
  obtain ⟨r, hr, h⟩ := bnd h
  have hX : (fun (r : DT) => ∀ (o11 : Option (Sum Int Nat)), EvF mtab d k_X12_joinsChains 49 [some (.inr (.inr 187)), some (.inl p1), dv o11, none, none] [] (SH L0, r) (none, (SH L0, t0))) r := by
    obtain ⟨D12, hre⟩ : ∃ q, q = r := ⟨r, rfl⟩
    subst hre
    intro o11
    show EvF mtab d k_X12_joinsChains 49 [some (.inr (.inr 187)), some (.inl p1), dv o11, none, none] [] (SH L0, D12) (none, (SH L0, t0))
    obtain ⟨x13, hx, h⟩ := bnd h
    refine ev_call (e_X12_nextByFlow L0 d (by omega) hx) 3 (pc' := 54) (L' := [some (.inr (.inr 187)), some (.inl p1), dv o11, none, none]) (S' := []) (fun _ _ => rfl) ?_
    obtain ⟨r, hr, h⟩ := bnd h
    have hX : (fun (r : DT) => ∀ (o33 : Option (Sum Int Nat)) (o34 : Option (Sum Int Nat)) (o35 : Option (Sum Int Nat)), EvF mtab d k_X12_joinsChains 162 [some (.inr (.inr 187)), some (.inl p1), dv o33, dv o34, dv o35] [] (SH L0, r) (none, (SH L0, t0))) r := by
      obtain ⟨D36, hre⟩ : ∃ q, q = r := ⟨r, rfl⟩
      subst hre
      intro o33 o34 o35
      show EvF mtab d k_X12_joinsChains 162 [some (.inr (.inr 187)), some (.inl p1), dv o33, dv o34, dv o35] [] (SH L0, D36) (none, (SH L0, t0))
      cases h
      exact ev_ret 1 (fun _ _ => rfl)
    clear h
    refine ev_go 1 (pc' := 55) (L' := [some (.inr (.inr 187)), some (.inl p1), some (.inl x13), none, none]) (S' := []) (σ' := (SH L0, D12)) (fun _ _ => rfl) ?_
    refine loop_ind (P := fun s => ∀ (o15 : Option (Sum Int Nat)) (o16 : Option (Sum Int Nat)), EvF mtab d k_X12_joinsChains 55 [some (.inr (.inr 187)), some (.inl p1), some (.inl s.1), dv o15, dv o16] [] (SH L0, s.2) (none, (SH L0, t0))) (X := fun r => ∀ (o33 : Option (Sum Int Nat)) (o34 : Option (Sum Int Nat)) (o35 : Option (Sum Int Nat)), EvF mtab d k_X12_joinsChains 162 [some (.inr (.inr 187)), some (.inl p1), dv o33, dv o34, dv o35] [] (SH L0, r) (none, (SH L0, t0))) hr hX ?_ none none
    clear hr hX
    intro s t hb hK0
    obtain ⟨l2_14, D17⟩ := s
    intro o15 o16
    show EvF mtab d k_X12_joinsChains 55 [some (.inr (.inr 187)), some (.inl p1), some (.inl l2_14), dv o15, dv o16] [] (SH L0, D17) (none, (SH L0, t0))
    unfold b_X12_joinsChains_55 at hb
    rcases ite_or hb with ⟨hc, hb⟩ | ⟨hc, hb⟩
    · refine ev_ift hc 2 (pc' := 162) (L' := [some (.inr (.inr 187)), some (.inl p1), some (.inl l2_14), dv o15, dv o16]) (S' := []) (σ' := (SH L0, D17)) (fun _ _ => rfl) ?_
      cases hb
      exact hK0 (some (.inl l2_14)) o15 o16
    · refine ev_iff hc 2 (pc' := 59) (L' := [some (.inr (.inr 187)), some (.inl p1), some (.inl l2_14), dv o15, dv o16]) (S' := []) (σ' := (SH L0, D17)) (fun _ _ => rfl) ?_
      obtain ⟨x18, hx, hb⟩ := bnd hb
      obtain ⟨D19, hy, hb⟩ := bnd hb
      refine ev_bind2 (Y := fun x18 => awr D17 194 88 l2_14 x18) hx hy 5 (pc' := 66) (L' := fun x18 D19 => [some (.inr (.inr 187)), some (.inl p1), some (.inl l2_14), dv o15, dv o16]) (S' := fun x18 D19 => []) (σ' := fun x18 D19 => (SH L0, D19)) (fun _ _ => rfl) ?_
      obtain ⟨x20, hx, hb⟩ := bnd hb
      refine ev_bind hx 6 (pc' := 76) (L' := fun x20 => [some (.inr (.inr 187)), some (.inl p1), some (.inl l2_14), dv o15, dv o16]) (S' := fun x20 => [.inl x20]) (σ' := fun x20 => (SH L0, D19)) (fun _ _ => rfl) ?_
      obtain ⟨x21, hx, hb⟩ := bnd hb
      refine ev_bind hx 7 (pc' := 87) (L' := fun x21 => [some (.inr (.inr 187)), some (.inl p1), some (.inl l2_14), some (.inl x20), dv o16]) (S' := fun x21 => [.inl x21]) (σ' := fun x21 => (SH L0, D19)) (fun _ _ => rfl) ?_
      obtain ⟨x22, hx, hb⟩ := bnd hb
      refine ev_bind hx 5 (pc' := 95) (L' := fun x22 => [some (.inr (.inr 187)), some (.inl p1), some (.inl l2_14), some (.inl x20), some (.inl x21)]) (S' := fun x22 => [.inl x22]) (σ' := fun x22 => (SH L0, D19)) (fun _ _ => rfl) ?_
      obtain ⟨D31, hv, hb⟩ := bnd hb
      have hJ : EvF mtab d k_X12_joinsChains 153 [some (.inr (.inr 187)), some (.inl p1), some (.inl l2_14), some (.inl x20), some (.inl x21)] [] (SH L0, D31) (none, (SH L0, t0)) := by
        obtain ⟨x32, hx, hb⟩ := bnd hb
        refine ev_call (e_X12_nextByFlow L0 d (by omega) hx) 3 (pc' := 158) (L' := [some (.inr (.inr 187)), some (.inl p1), some (.inl l2_14), some (.inl x20), some (.inl x21)]) (S' := []) (fun _ _ => rfl) ?_
        cases hb
        exact ev_go 2 (pc' := 55) (L' := [some (.inr (.inr 187)), some (.inl p1), some (.inl x32), some (.inl x20), some (.inl x21)]) (S' := []) (σ' := (SH L0, D31)) (fun _ _ => rfl) (hK0 (some (.inl x20)) (some (.inl x21)))
      clear hb
      rcases ite_or hv with ⟨hc, hv⟩ | ⟨hc, hv⟩
      · refine ev_ift hc 1 (pc' := 153) (L' := [some (.inr (.inr 187)), some (.inl p1), some (.inl l2_14), some (.inl x20), some (.inl x21)]) (S' := []) (σ' := (SH L0, D19)) (fun _ _ => rfl) ?_
        have he0 := Option.some.inj hv
        subst he0
        exact hJ
      · refine ev_iff hc 1 (pc' := 98) (L' := [some (.inr (.inr 187)), some (.inl p1), some (.inl l2_14), some (.inl x20), some (.inl x21)]) (S' := []) (σ' := (SH L0, D19)) (fun _ _ => rfl) ?_
        obtain ⟨x23, hx, hv⟩ := bnd hv
        refine ev_bind hx 4 (pc' := 105) (L' := fun x23 => [some (.inr (.inr 187)), some (.inl p1), some (.inl l2_14), some (.inl x20), some (.inl x21)]) (S' := fun x23 => [.inl x23]) (σ' := fun x23 => (SH L0, D19)) (fun _ _ => rfl) ?_
        rcases ite_or hv with ⟨hc, hv⟩ | ⟨hc, hv⟩
        · refine ev_ift hc 1 (pc' := 153) (L' := [some (.inr (.inr 187)), some (.inl p1), some (.inl l2_14), some (.inl x20), some (.inl x21)]) (S' := []) (σ' := (SH L0, D19)) (fun _ _ => rfl) ?_
          have he0 := Option.some.inj hv
          subst he0
          exact hJ
        · refine ev_iff hc 1 (pc' := 108) (L' := [some (.inr (.inr 187)), some (.inl p1), some (.inl l2_14), some (.inl x20), some (.inl x21)]) (S' := []) (σ' := (SH L0, D19)) (fun _ _ => rfl) ?_
          obtain ⟨x24, hx, hv⟩ := bnd hv
          refine ev_call (e_X12_isEntry L0 d (by omega) hx) 3 (pc' := 114) (L' := [some (.inr (.inr 187)), some (.inl p1), some (.inl l2_14), some (.inl x20), some (.inl x21)]) (S' := []) (fun _ _ => rfl) ?_
          rcases ite_or hv with ⟨hc, hv⟩ | ⟨hc, hv⟩
          · refine ev_ift hc 1 (pc' := 117) (L' := [some (.inr (.inr 187)), some (.inl p1), some (.inl l2_14), some (.inl x20), some (.inl x21)]) (S' := []) (σ' := (SH L0, D19)) (fun _ _ => rfl) ?_
            obtain ⟨x25, hx, hv⟩ := bnd hv
            refine ev_call (e_X12_firstOf L0 d (by omega) hx) 3 (pc' := 122) (L' := [some (.inr (.inr 187)), some (.inl p1), some (.inl l2_14), some (.inl x20), some (.inl x21)]) (S' := []) (fun _ _ => rfl) ?_
            rcases ite_or hv with ⟨hc, hv⟩ | ⟨hc, hv⟩
            · refine ev_ift hc 2 (pc' := 127) (L' := [some (.inr (.inr 187)), some (.inl p1), some (.inl l2_14), some (.inl x20), some (.inl x21)]) (S' := []) (σ' := (SH L0, D19)) (fun _ _ => rfl) ?_
              have he0 := Option.some.inj hv
              subst he0
              exact ev_go 1 (pc' := 153) (L' := [some (.inr (.inr 187)), some (.inl p1), some (.inl l2_14), some (.inl x20), some (.inl x21)]) (S' := []) (σ' := (SH L0, D19)) (fun _ _ => rfl) hJ
            · refine ev_iff hc 2 (pc' := 130) (L' := [some (.inr (.inr 187)), some (.inl p1), some (.inl l2_14), some (.inl x20), some (.inl x21)]) (S' := []) (σ' := (SH L0, D19)) (fun _ _ => rfl) ?_
              obtain ⟨D26, hx, hv⟩ := bnd hv
              refine ev_bind hx 5 (pc' := 138) (L' := fun D26 => [some (.inr (.inr 187)), some (.inl p1), some (.inl l2_14), some (.inl x20), some (.inl x21)]) (S' := fun D26 => []) (σ' := fun D26 => (SH L0, D26)) (fun _ _ => rfl) ?_
              obtain ⟨x27, hx, hv⟩ := bnd hv
              obtain ⟨D28, hy, hv⟩ := bnd hv
              refine ev_bind2 (Y := fun x27 => awr D26 201 40 x20 x27) hx hy 5 (pc' := 145) (L' := fun x27 D28 => [some (.inr (.inr 187)), some (.inl p1), some (.inl l2_14), some (.inl x20), some (.inl x21)]) (S' := fun x27 D28 => []) (σ' := fun x27 D28 => (SH L0, D28)) (fun _ _ => rfl) ?_
              obtain ⟨x29, hx, hv⟩ := bnd hv
              obtain ⟨D30, hy, hv⟩ := bnd hv
              refine ev_bind2 (Y := fun x29 => awr D28 200 40 x21 x29) hx hy 5 (pc' := 153) (L' := fun x29 D30 => [some (.inr (.inr 187)), some (.inl p1), some (.inl l2_14), some (.inl x20), some (.inl x21)]) (S' := fun x29 D30 => []) (σ' := fun x29 D30 => (SH L0, D30)) (fun _ _ => rfl) ?_
              have he0 := Option.some.inj hv
              subst he0
              exact hJ
          · refine ev_iff hc 1 (pc' := 153) (L' := [some (.inr (.inr 187)), some (.inl p1), some (.inl l2_14), some (.inl x20), some (.inl x21)]) (S' := []) (σ' := (SH L0, D19)) (fun _ _ => rfl) ?_
            have he0 := Option.some.inj hv
            subst he0
            exact hJ
  clear h
  refine ev_go 2 (pc' := 2) (L' := [some (.inr (.inr 187)), some (.inl p1), some (.inl 0), none, none]) (S' := []) (σ' := (SH L0, D)) (fun _ _ => rfl) ?_
  refine loop_ind (P := fun s => EvF mtab d k_X12_joinsChains 2 [some (.inr (.inr 187)), some (.inl p1), some (.inl s.1), none, none] [] (SH L0, s.2) (none, (SH L0, t0))) (X := fun r => ∀ (o11 : Option (Sum Int Nat)), EvF mtab d k_X12_joinsChains 49 [some (.inr (.inr 187)), some (.inl p1), dv o11, none, none] [] (SH L0, r) (none, (SH L0, t0))) hr hX ?_
  clear hr hX
  intro s t hb hK0
  obtain ⟨l2_1, D2⟩ := s
  show EvF mtab d k_X12_joinsChains 2 [some (.inr (.inr 187)), some (.inl p1), some (.inl l2_1), none, none] [] (SH L0, D2) (none, (SH L0, t0))
  unfold b_X12_joinsChains_2 at hb
  obtain ⟨x3, hx, hb⟩ := bnd hb
  refine ev_call (e_X12_blocks L0 d (by omega) hx) 3 (pc' := 7) (L' := [some (.inr (.inr 187)), some (.inl p1), some (.inl l2_1), none, none]) (S' := [.inl l2_1]) (fun _ _ => rfl) ?_
  rcases ite_or hb with ⟨hc, hb⟩ | ⟨hc, hb⟩
  · refine ev_ift hc 1 (pc' := 10) (L' := [some (.inr (.inr 187)), some (.inl p1), some (.inl l2_1), none, none]) (S' := []) (σ' := (SH L0, D2)) (fun _ _ => rfl) ?_
    obtain ⟨x4, hx, hb⟩ := bnd hb
    refine ev_call (e_X12_funOf L0 d (by omega) hx) 3 (pc' := 15) (L' := [some (.inr (.inr 187)), some (.inl p1), some (.inl l2_1), none, none]) (S' := []) (fun _ _ => rfl) ?_
    obtain ⟨D10, hv, hb⟩ := bnd hb
    have hJ : EvF mtab d k_X12_joinsChains 43 [some (.inr (.inr 187)), some (.inl p1), some (.inl l2_1), none, none] [] (SH L0, D10) (none, (SH L0, t0)) := by
      cases hb
      exact ev_go 2 (pc' := 2) (L' := [some (.inr (.inr 187)), some (.inl p1), some (.inl (w32 (l2_1 + 1))), none, none]) (S' := []) (σ' := (SH L0, D10)) (fun _ _ => rfl) hK0
    clear hb
    rcases ite_or hv with ⟨hc, hv⟩ | ⟨hc, hv⟩
    · refine ev_ift hc 2 (pc' := 22) (L' := [some (.inr (.inr 187)), some (.inl p1), some (.inl l2_1), none, none]) (S' := []) (σ' := (SH L0, D2)) (fun _ _ => rfl) ?_
      obtain ⟨D5, hx, hv⟩ := bnd hv
      refine ev_bind hx 5 (pc' := 29) (L' := fun D5 => [some (.inr (.inr 187)), some (.inl p1), some (.inl l2_1), none, none]) (S' := fun D5 => []) (σ' := fun D5 => (SH L0, D5)) (fun _ _ => rfl) ?_
      obtain ⟨x6, hx, hv⟩ := bnd hv
      obtain ⟨D7, hy, hv⟩ := bnd hv
      refine ev_bind2 (Y := fun x6 => awr D5 200 40 l2_1 x6) hx hy 5 (pc' := 36) (L' := fun x6 D7 => [some (.inr (.inr 187)), some (.inl p1), some (.inl l2_1), none, none]) (S' := fun x6 D7 => []) (σ' := fun x6 D7 => (SH L0, D7)) (fun _ _ => rfl) ?_
      obtain ⟨x8, hx, hv⟩ := bnd hv
      obtain ⟨D9, hy, hv⟩ := bnd hv
      refine ev_bind2 (Y := fun x8 => awr D7 201 40 l2_1 x8) hx hy 5 (pc' := 43) (L' := fun x8 D9 => [some (.inr (.inr 187)), some (.inl p1), some (.inl l2_1), none, none]) (S' := fun x8 D9 => []) (σ' := fun x8 D9 => (SH L0, D9)) (fun _ _ => rfl) ?_
      have he0 := Option.some.inj hv
      subst he0
      exact hJ
    · refine ev_iff hc 2 (pc' := 19) (L' := [some (.inr (.inr 187)), some (.inl p1), some (.inl l2_1), none, none]) (S' := []) (σ' := (SH L0, D2)) (fun _ _ => rfl) ?_
      have he0 := Option.some.inj hv
      subst he0
      exact ev_go 1 (pc' := 43) (L' := [some (.inr (.inr 187)), some (.inl p1), some (.inl l2_1), none, none]) (S' := []) (σ' := (SH L0, D2)) (fun _ _ => rfl) hJ
  · refine ev_iff hc 1 (pc' := 49) (L' := [some (.inr (.inr 187)), some (.inl p1), some (.inl l2_1), none, none]) (S' := []) (σ' := (SH L0, D2)) (fun _ _ => rfl) ?_
    cases hb
    exact hK0 (some (.inl l2_1))
set_option maxRecDepth 100000 in
set_option maxHeartbeats 4000000 in
theorem e_X12_isIn__187_198 (L0 d : Nat) (hd : 1 ≤ d) {p2 p3 p4 : Int} {D : DT} {t0 : Int} (h : m_X12_isIn_ 198 p2 p3 p4 D = some t0) : Ret mtab d 191 [.inr (.inr 187), .inr (.inr 198), .inl p2, .inl p3, .inl p4] (SH L0, D) (some (.inl t0), (SH L0, D)) := by
  obtain ⟨d, rfl⟩ : ∃ e, d = e + 1 := ⟨d - 1, by omega⟩
  refine Ret.of (code := k_X12_isIn_) (ml := 6) rfl ?_
  show EvF mtab d k_X12_isIn_ 0 [some (.inr (.inr 187)), some (.inr (.inr 198)), some (.inl p2), some (.inl p3), some (.inl p4), none] [] (SH L0, D) (some (.inl t0), (SH L0, D))
  unfold m_X12_isIn_ at h
  obtain ⟨r, hr, h⟩ := bnd h
  have hX : (fun (r : (Unit ⊕ Unit)) => match r with | .inl r => (∀ (o3 : Option (Sum Int Nat)), EvF mtab d k_X12_isIn_ 20 [some (.inr (.inr 187)), some (.inr (.inr 198)), some (.inl p2), some (.inl p3), some (.inl p4), dv o3] [] (SH L0, D) (some (.inl t0), (SH L0, D))) | .inr r => (∀ (o4 : Option (Sum Int Nat)), EvF mtab d k_X12_isIn_ 28 [some (.inr (.inr 187)), some (.inr (.inr 198)), some (.inl p2), some (.inl p3), some (.inl p4), dv o4] [] (SH L0, D) (some (.inl t0), (SH L0, D)))) r := by
    rcases r with r | r
    · skip
      intro o3
      show EvF mtab d k_X12_isIn_ 20 [some (.inr (.inr 187)), some (.inr (.inr 198)), some (.inl p2), some (.inl p3), some (.inl p4), dv o3] [] (SH L0, D) (some (.inl t0), (SH L0, D))
      cases h
      exact ev_ret 2 (fun _ _ => rfl)
    intro o4
    show EvF mtab d k_X12_isIn_ 28 [some (.inr (.inr 187)), some (.inr (.inr 198)), some (.inl p2), some (.inl p3), some (.inl p4), dv o4] [] (SH L0, D) (some (.inl t0), (SH L0, D))
    cases h
    exact ev_ret 2 (fun _ _ => rfl)
  clear h
  refine ev_go 2 (pc' := 3) (L' := [some (.inr (.inr 187)), some (.inr (.inr 198)), some (.inl p2), some (.inl p3), some (.inl p4), some (.inl 0)]) (S' := []) (σ' := (SH L0, D)) (fun _ _ => rfl) ?_
  refine loop_ind (P := fun s => EvF mtab d k_X12_isIn_ 3 [some (.inr (.inr 187)), some (.inr (.inr 198)), some (.inl p2), some (.inl p3), some (.inl p4), some (.inl s)] [] (SH L0, D) (some (.inl t0), (SH L0, D))) (X := fun r => match r with | .inl r => (∀ (o3 : Option (Sum Int Nat)), EvF mtab d k_X12_isIn_ 20 [some (.inr (.inr 187)), some (.inr (.inr 198)), some (.inl p2), some (.inl p3), some (.inl p4), dv o3] [] (SH L0, D) (some (.inl t0), (SH L0, D))) | .inr r => (∀ (o4 : Option (Sum Int Nat)), EvF mtab d k_X12_isIn_ 28 [some (.inr (.inr 187)), some (.inr (.inr 198)), some (.inl p2), some (.inl p3), some (.inl p4), dv o4] [] (SH L0, D) (some (.inl t0), (SH L0, D)))) hr hX ?_
  clear hr hX
  intro s t hb hK0
  obtain ⟨l5_1, hre⟩ : ∃ q, q = s := ⟨s, rfl⟩
  subst hre
  show EvF mtab d k_X12_isIn_ 3 [some (.inr (.inr 187)), some (.inr (.inr 198)), some (.inl p2), some (.inl p3), some (.inl p4), some (.inl l5_1)] [] (SH L0, D) (some (.inl t0), (SH L0, D))
  unfold b_X12_isIn__3 at hb
  rcases ite_or hb with ⟨hc, hb⟩ | ⟨hc, hb⟩
  · refine ev_ift hc 3 (pc' := 9) (L' := [some (.inr (.inr 187)), some (.inr (.inr 198)), some (.inl p2), some (.inl p3), some (.inl p4), some (.inl l5_1)]) (S' := []) (σ' := (SH L0, D)) (fun _ _ => rfl) ?_
    obtain ⟨x2, hx, hb⟩ := bnd hb
    refine ev_bind hx 5 (pc' := 15) (L' := fun x2 => [some (.inr (.inr 187)), some (.inr (.inr 198)), some (.inl p2), some (.inl p3), some (.inl p4), some (.inl l5_1)]) (S' := fun x2 => [.inl x2]) (σ' := fun x2 => (SH L0, D)) (fun _ _ => rfl) ?_
    rcases ite_or hb with ⟨hc, hb⟩ | ⟨hc, hb⟩
    · refine ev_ift hc 2 (pc' := 20) (L' := [some (.inr (.inr 187)), some (.inr (.inr 198)), some (.inl p2), some (.inl p3), some (.inl p4), some (.inl l5_1)]) (S' := []) (σ' := (SH L0, D)) (fun _ _ => rfl) ?_
      cases hb
      exact hK0 (some (.inl l5_1))
    · refine ev_iff hc 2 (pc' := 22) (L' := [some (.inr (.inr 187)), some (.inr (.inr 198)), some (.inl p2), some (.inl p3), some (.inl p4), some (.inl l5_1)]) (S' := []) (σ' := (SH L0, D)) (fun _ _ => rfl) ?_
      cases hb
      exact ev_go 2 (pc' := 3) (L' := [some (.inr (.inr 187)), some (.inr (.inr 198)), some (.inl p2), some (.inl p3), some (.inl p4), some (.inl (w32 (l5_1 + 1)))]) (S' := []) (σ' := (SH L0, D)) (fun _ _ => rfl) hK0
  · refine ev_iff hc 3 (pc' := 28) (L' := [some (.inr (.inr 187)), some (.inr (.inr 198)), some (.inl p2), some (.inl p3), some (.inl p4), some (.inl l5_1)]) (S' := []) (σ' := (SH L0, D)) (fun _ _ => rfl) ?_
    cases hb
    exact hK0 (some (.inl l5_1))
set_option maxRecDepth 100000 in
set_option maxHeartbeats 4000000 in
theorem e_X12_isIn__187_224 (L0 d : Nat) (hd : 1 ≤ d) {p2 p3 p4 : Int} {D : DT} {t0 : Int} (h : m_X12_isIn_ 224 p2 p3 p4 D = some t0) : Ret mtab d 191 [.inr (.inr 187), .inr (.inr 224), .inl p2, .inl p3, .inl p4] (SH L0, D) (some (.inl t0), (SH L0, D)) := by
  obtain ⟨d, rfl⟩ : ∃ e, d = e + 1 := ⟨d - 1, by omega⟩
  refine Ret.of (code := k_X12_isIn_) (ml := 6) rfl ?_
  show EvF mtab d k_X12_isIn_ 0 [some (.inr (.inr 187)), some (.inr (.inr 224)), some (.inl p2), some (.inl p3), some (.inl p4), none] [] (SH L0, D) (some (.inl t0), (SH L0, D))
  unfold m_X12_isIn_ at h
  obtain ⟨r, hr, h⟩ := bnd h
  have hX : (fun (r : (Unit ⊕ Unit)) => match r with | .inl r => (∀ (o3 : Option (Sum Int Nat)), EvF mtab d k_X12_isIn_ 20 [some (.inr (.inr 187)), some (.inr (.inr 224)), some (.inl p2), some (.inl p3), some (.inl p4), dv o3] [] (SH L0, D) (some (.inl t0), (SH L0, D))) | .inr r => (∀ (o4 : Option (Sum Int Nat)), EvF mtab d k_X12_isIn_ 28 [some (.inr (.inr 187)), some (.inr (.inr 224)), some (.inl p2), some (.inl p3), some (.inl p4), dv o4] [] (SH L0, D) (some (.inl t0), (SH L0, D)))) r := by
    rcases r with r | r
    · skip
      intro o3
      show EvF mtab d k_X12_isIn_ 20 [some (.inr (.inr 187)), some (.inr (.inr 224)), some (.inl p2), some (.inl p3), some (.inl p4), dv o3] [] (SH L0, D) (some (.inl t0), (SH L0, D))
      cases h
      exact ev_ret 2 (fun _ _ => rfl)
    intro o4
    show EvF mtab d k_X12_isIn_ 28 [some (.inr (.inr 187)), some (.inr (.inr 224)), some (.inl p2), some (.inl p3), some (.inl p4), dv o4] [] (SH L0, D) (some (.inl t0), (SH L0, D))
    cases h
    exact ev_ret 2 (fun _ _ => rfl)
  clear h
  refine ev_go 2 (pc' := 3) (L' := [some (.inr (.inr 187)), some (.inr (.inr 224)), some (.inl p2), some (.inl p3), some (.inl p4), some (.inl 0)]) (S' := []) (σ' := (SH L0, D)) (fun _ _ => rfl) ?_
  refine loop_ind (P := fun s => EvF mtab d k_X12_isIn_ 3 [some (.inr (.inr 187)), some (.inr (.inr 224)), some (.inl p2), some (.inl p3), some (.inl p4), some (.inl s)] [] (SH L0, D) (some (.inl t0), (SH L0, D))) (X := fun r => match r with | .inl r => (∀ (o3 : Option (Sum Int Nat)), EvF mtab d k_X12_isIn_ 20 [some (.inr (.inr 187)), some (.inr (.inr 224)), some (.inl p2), some (.inl p3), some (.inl p4), dv o3] [] (SH L0, D) (some (.inl t0), (SH L0, D))) | .inr r => (∀ (o4 : Option (Sum Int Nat)), EvF mtab d k_X12_isIn_ 28 [some (.inr (.inr 187)), some (.inr (.inr 224)), some (.inl p2), some (.inl p3), some (.inl p4), dv o4] [] (SH L0, D) (some (.inl t0), (SH L0, D)))) hr hX ?_
  clear hr hX
  intro s t hb hK0
  obtain ⟨l5_1, hre⟩ : ∃ q, q = s := ⟨s, rfl⟩
  subst hre
  show EvF mtab d k_X12_isIn_ 3 [some (.inr (.inr 187)), some (.inr (.inr 224)), some (.inl p2), some (.inl p3), some (.inl p4), some (.inl l5_1)] [] (SH L0, D) (some (.inl t0), (SH L0, D))
  unfold b_X12_isIn__3 at hb
  rcases ite_or hb with ⟨hc, hb⟩ | ⟨hc, hb⟩
  · refine ev_ift hc 3 (pc' := 9) (L' := [some (.inr (.inr 187)), some (.inr (.inr 224)), some (.inl p2), some (.inl p3), some (.inl p4), some (.inl l5_1)]) (S' := []) (σ' := (SH L0, D)) (fun _ _ => rfl) ?_
    obtain ⟨x2, hx, hb⟩ := bnd hb
    refine ev_bind hx 5 (pc' := 15) (L' := fun x2 => [some (.inr (.inr 187)), some (.inr (.inr 224)), some (.inl p2), some (.inl p3), some (.inl p4), some (.inl l5_1)]) (S' := fun x2 => [.inl x2]) (σ' := fun x2 => (SH L0, D)) (fun _ _ => rfl) ?_
    rcases ite_or hb with ⟨hc, hb⟩ | ⟨hc, hb⟩
    · refine ev_ift hc 2 (pc' := 20) (L' := [some (.inr (.inr 187)), some (.inr (.inr 224)), some (.inl p2), some (.inl p3), some (.inl p4), some (.inl l5_1)]) (S' := []) (σ' := (SH L0, D)) (fun _ _ => rfl) ?_
      cases hb
      exact hK0 (some (.inl l5_1))
    · refine ev_iff hc 2 (pc' := 22) (L' := [some (.inr (.inr 187)), some (.inr (.inr 224)), some (.inl p2), some (.inl p3), some (.inl p4), some (.inl l5_1)]) (S' := []) (σ' := (SH L0, D)) (fun _ _ => rfl) ?_
      cases hb
      exact ev_go 2 (pc' := 3) (L' := [some (.inr (.inr 187)), some (.inr (.inr 224)), some (.inl p2), some (.inl p3), some (.inl p4), some (.inl (w32 (l5_1 + 1)))]) (S' := []) (σ' := (SH L0, D)) (fun _ _ => rfl) hK0
  · refine ev_iff hc 3 (pc' := 28) (L' := [some (.inr (.inr 187)), some (.inr (.inr 224)), some (.inl p2), some (.inl p3), some (.inl p4), some (.inl l5_1)]) (S' := []) (σ' := (SH L0, D)) (fun _ _ => rfl) ?_
    cases hb
    exact hK0 (some (.inl l5_1))
set_option maxRecDepth 100000 in
set_option maxHeartbeats 4000000 in
theorem e_X12_between (L0 d : Nat) (hd : 2 ≤ d) {p1 p2 p3 : Int} {D : DT} {t0 : Int} (h : m_X12_between p1 p2 p3 D = some t0) : Ret mtab d 192 [.inr (.inr 187), .inl p1, .inl p2, .inl p3] (SH L0, D) (some (.inl t0), (SH L0, D)) := by
  obtain ⟨d, rfl⟩ : ∃ e, d = e + 1 := ⟨d - 1, by omega⟩
  refine Ret.of (code := k_X12_between) (ml := 8) rfl ?_
  show EvF mtab d k_X12_between 0 [some (.inr (.inr 187)), some (.inl p1), some (.inl p2), some (.inl p3), none, none, none, none] [] (SH L0, D) (some (.inl t0), (SH L0, D))
  unfold m_X12_between at h
  obtain ⟨r, hr, h⟩ := bnd h
  have hX : (fun (r : Int) => ∀ (o34 : Option (Sum Int Nat)) (o35 : Option (Sum Int Nat)) (o36 : Option (Sum Int Nat)), EvF mtab d k_X12_between 180 [some (.inr (.inr 187)), some (.inl p1), some (.inl p2), some (.inl p3), some (.inl r), dv o34, dv o35, dv o36] [] (SH L0, D) (some (.inl t0), (SH L0, D))) r := by
    obtain ⟨l4_33, hre⟩ : ∃ q, q = r := ⟨r, rfl⟩
    subst hre
    intro o34 o35 o36
    show EvF mtab d k_X12_between 180 [some (.inr (.inr 187)), some (.inl p1), some (.inl p2), some (.inl p3), some (.inl l4_33), dv o34, dv o35, dv o36] [] (SH L0, D) (some (.inl t0), (SH L0, D))
    cases h
    exact ev_ret 2 (fun _ _ => rfl)
  clear h
  refine ev_go 4 (pc' := 6) (L' := [some (.inr (.inr 187)), some (.inl p1), some (.inl p2), some (.inl p3), some (.inl 0), some (.inl p1), none, none]) (S' := []) (σ' := (SH L0, D)) (fun _ _ => rfl) ?_
  refine loop_ind (P := fun s => ∀ (o3 : Option (Sum Int Nat)) (o4 : Option (Sum Int Nat)), EvF mtab d k_X12_between 6 [some (.inr (.inr 187)), some (.inl p1), some (.inl p2), some (.inl p3), some (.inl s.1), some (.inl s.2), dv o3, dv o4] [] (SH L0, D) (some (.inl t0), (SH L0, D))) (X := fun r => ∀ (o34 : Option (Sum Int Nat)) (o35 : Option (Sum Int Nat)) (o36 : Option (Sum Int Nat)), EvF mtab d k_X12_between 180 [some (.inr (.inr 187)), some (.inl p1), some (.inl p2), some (.inl p3), some (.inl r), dv o34, dv o35, dv o36] [] (SH L0, D) (some (.inl t0), (SH L0, D))) hr hX ?_ none none
  clear hr hX
  intro s t hb hK0
  obtain ⟨l4_1, l5_2⟩ := s
  intro o3 o4
  show EvF mtab d k_X12_between 6 [some (.inr (.inr 187)), some (.inl p1), some (.inl p2), some (.inl p3), some (.inl l4_1), some (.inl l5_2), dv o3, dv o4] [] (SH L0, D) (some (.inl t0), (SH L0, D))
  unfold b_X12_between_6 at hb
  rcases ite_or hb with ⟨hc, hb⟩ | ⟨hc, hb⟩
  · refine ev_ift hc 2 (pc' := 180) (L' := [some (.inr (.inr 187)), some (.inl p1), some (.inl p2), some (.inl p3), some (.inl l4_1), some (.inl l5_2), dv o3, dv o4]) (S' := []) (σ' := (SH L0, D)) (fun _ _ => rfl) ?_
    cases hb
    exact hK0 (some (.inl l5_2)) o3 o4
  · refine ev_iff hc 2 (pc' := 11) (L' := [some (.inr (.inr 187)), some (.inl p1), some (.inl p2), some (.inl p3), some (.inl l4_1), some (.inl l5_2), dv o3, dv o4]) (S' := []) (σ' := (SH L0, D)) (fun _ _ => rfl) ?_
    obtain ⟨r, hr, hb⟩ := bnd hb
    have hX : (fun (r : Int) => ∀ (o30 : Option (Sum Int Nat)) (o31 : Option (Sum Int Nat)), EvF mtab d k_X12_between 168 [some (.inr (.inr 187)), some (.inl p1), some (.inl p2), some (.inl p3), some (.inl r), some (.inl l5_2), dv o30, dv o31] [] (SH L0, D) (some (.inl t0), (SH L0, D))) r := by
      obtain ⟨l4_29, hre⟩ : ∃ q, q = r := ⟨r, rfl⟩
      subst hre
      intro o30 o31
      show EvF mtab d k_X12_between 168 [some (.inr (.inr 187)), some (.inl p1), some (.inl p2), some (.inl p3), some (.inl l4_29), some (.inl l5_2), dv o30, dv o31] [] (SH L0, D) (some (.inl t0), (SH L0, D))
      obtain ⟨x32, hx, hb⟩ := bnd hb
      refine ev_bind hx 4 (pc' := 175) (L' := fun x32 => [some (.inr (.inr 187)), some (.inl p1), some (.inl p2), some (.inl p3), some (.inl l4_29), some (.inl l5_2), dv o30, dv o31]) (S' := fun x32 => [.inl x32]) (σ' := fun x32 => (SH L0, D)) (fun _ _ => rfl) ?_
      cases hb
      exact ev_go 2 (pc' := 6) (L' := [some (.inr (.inr 187)), some (.inl p1), some (.inl p2), some (.inl p3), some (.inl l4_29), some (.inl x32), dv o30, dv o31]) (S' := []) (σ' := (SH L0, D)) (fun _ _ => rfl) (hK0 o30 o31)
    clear hb
    refine ev_go 2 (pc' := 14) (L' := [some (.inr (.inr 187)), some (.inl p1), some (.inl p2), some (.inl p3), some (.inl l4_1), some (.inl l5_2), some (.inl 0), dv o4]) (S' := []) (σ' := (SH L0, D)) (fun _ _ => rfl) ?_
    refine loop_ind (P := fun s => ∀ (o7 : Option (Sum Int Nat)), EvF mtab d k_X12_between 14 [some (.inr (.inr 187)), some (.inl p1), some (.inl p2), some (.inl p3), some (.inl s.1), some (.inl l5_2), some (.inl s.2), dv o7] [] (SH L0, D) (some (.inl t0), (SH L0, D))) (X := fun r => ∀ (o30 : Option (Sum Int Nat)) (o31 : Option (Sum Int Nat)), EvF mtab d k_X12_between 168 [some (.inr (.inr 187)), some (.inl p1), some (.inl p2), some (.inl p3), some (.inl r), some (.inl l5_2), dv o30, dv o31] [] (SH L0, D) (some (.inl t0), (SH L0, D))) hr hX ?_ o4
    clear hr hX
    intro s t hb hK1
    obtain ⟨l4_5, l6_6⟩ := s
    intro o7
    show EvF mtab d k_X12_between 14 [some (.inr (.inr 187)), some (.inl p1), some (.inl p2), some (.inl p3), some (.inl l4_5), some (.inl l5_2), some (.inl l6_6), dv o7] [] (SH L0, D) (some (.inl t0), (SH L0, D))
    unfold b_X12_between_14 at hb
    obtain ⟨x8, hx, hb⟩ := bnd hb
    refine ev_call (e_X12_arcs L0 d (by omega) hx) 3 (pc' := 20) (L' := [some (.inr (.inr 187)), some (.inl p1), some (.inl p2), some (.inl p3), some (.inl l4_5), some (.inl l5_2), some (.inl l6_6), dv o7]) (S' := [.inl l6_6]) (fun _ _ => rfl) ?_
    rcases ite_or hb with ⟨hc, hb⟩ | ⟨hc, hb⟩
    · refine ev_ift hc 1 (pc' := 23) (L' := [some (.inr (.inr 187)), some (.inl p1), some (.inl p2), some (.inl p3), some (.inl l4_5), some (.inl l5_2), some (.inl l6_6), dv o7]) (S' := []) (σ' := (SH L0, D)) (fun _ _ => rfl) ?_
      obtain ⟨x9, hx, hb⟩ := bnd hb
      refine ev_bind hx 6 (pc' := 34) (L' := fun x9 => [some (.inr (.inr 187)), some (.inl p1), some (.inl p2), some (.inl p3), some (.inl l4_5), some (.inl l5_2), some (.inl l6_6), dv o7]) (S' := fun x9 => [.inl x9]) (σ' := fun x9 => (SH L0, D)) (fun _ _ => rfl) ?_
      obtain ⟨t25, hv, hb⟩ := bnd hb
      have hJ : EvF mtab d k_X12_between 136 [some (.inr (.inr 187)), some (.inl p1), some (.inl p2), some (.inl p3), some (.inl l4_5), some (.inl l5_2), some (.inl l6_6), dv o7] [.inl t25] (SH L0, D) (some (.inl t0), (SH L0, D)) := by
        obtain ⟨t28, hv, hb⟩ := bnd hb
        have hJ : EvF mtab d k_X12_between 159 [some (.inr (.inr 187)), some (.inl p1), some (.inl p2), some (.inl p3), some (.inl l4_5), some (.inl l5_2), some (.inl l6_6), some (.inl t25)] [.inl t28, .inl l4_5] (SH L0, D) (some (.inl t0), (SH L0, D)) := by
          cases hb
          exact ev_go 4 (pc' := 14) (L' := [some (.inr (.inr 187)), some (.inl p1), some (.inl p2), some (.inl p3), some (.inl (w32 (l4_5 + t28))), some (.inl l5_2), some (.inl (w32 (l6_6 + 1))), some (.inl t25)]) (S' := []) (σ' := (SH L0, D)) (fun _ _ => rfl) (hK1 (some (.inl t25)))
        clear hb
        rcases ite_or hv with ⟨hc, hv⟩ | ⟨hc, hv⟩
        · refine ev_ift hc 4 (pc' := 158) (L' := [some (.inr (.inr 187)), some (.inl p1), some (.inl p2), some (.inl p3), some (.inl l4_5), some (.inl l5_2), some (.inl l6_6), some (.inl t25)]) (S' := [.inl l4_5]) (σ' := (SH L0, D)) (fun _ _ => rfl) ?_
          have he0 := Option.some.inj hv
          subst he0
          exact ev_go 1 (pc' := 159) (L' := [some (.inr (.inr 187)), some (.inl p1), some (.inl p2), some (.inl p3), some (.inl l4_5), some (.inl l5_2), some (.inl l6_6), some (.inl t25)]) (S' := [.inl 0, .inl l4_5]) (σ' := (SH L0, D)) (fun _ _ => rfl) hJ
        · refine ev_iff hc 4 (pc' := 145) (L' := [some (.inr (.inr 187)), some (.inl p1), some (.inl p2), some (.inl p3), some (.inl l4_5), some (.inl l5_2), some (.inl l6_6), some (.inl t25)]) (S' := [.inl l4_5]) (σ' := (SH L0, D)) (fun _ _ => rfl) ?_
          obtain ⟨x26, hx, hv⟩ := bnd hv
          refine ev_bind hx 4 (pc' := 152) (L' := fun x26 => [some (.inr (.inr 187)), some (.inl p1), some (.inl p2), some (.inl p3), some (.inl l4_5), some (.inl l5_2), some (.inl l6_6), some (.inl t25)]) (S' := fun x26 => [.inl x26, .inl l4_5]) (σ' := fun x26 => (SH L0, D)) (fun _ _ => rfl) ?_
          obtain ⟨x27, hx, hv⟩ := bnd hv
          refine ev_call (e_X12_whole L0 d (by omega) hx) 1 (pc' := 155) (L' := [some (.inr (.inr 187)), some (.inl p1), some (.inl p2), some (.inl p3), some (.inl l4_5), some (.inl l5_2), some (.inl l6_6), some (.inl t25)]) (S' := [.inl l4_5]) (fun _ _ => rfl) ?_
          have he0 := Option.some.inj hv
          subst he0
          exact ev_go 1 (pc' := 159) (L' := [some (.inr (.inr 187)), some (.inl p1), some (.inl p2), some (.inl p3), some (.inl l4_5), some (.inl l5_2), some (.inl l6_6), some (.inl t25)]) (S' := [.inl x27, .inl l4_5]) (σ' := (SH L0, D)) (fun _ _ => rfl) hJ
      clear hb
      rcases ite_or hv with ⟨hc, hv⟩ | ⟨hc, hv⟩
      · refine ev_ift hc 2 (pc' := 39) (L' := [some (.inr (.inr 187)), some (.inl p1), some (.inl p2), some (.inl p3), some (.inl l4_5), some (.inl l5_2), some (.inl l6_6), dv o7]) (S' := []) (σ' := (SH L0, D)) (fun _ _ => rfl) ?_
        obtain ⟨x10, hx, hv⟩ := bnd hv
        refine ev_bind hx 6 (pc' := 50) (L' := fun x10 => [some (.inr (.inr 187)), some (.inl p1), some (.inl p2), some (.inl p3), some (.inl l4_5), some (.inl l5_2), some (.inl l6_6), dv o7]) (S' := fun x10 => [.inl x10]) (σ' := fun x10 => (SH L0, D)) (fun _ _ => rfl) ?_
        rcases ite_or hv with ⟨hc, hv⟩ | ⟨hc, hv⟩
        · refine ev_ift hc 1 (pc' := 77) (L' := [some (.inr (.inr 187)), some (.inl p1), some (.inl p2), some (.inl p3), some (.inl l4_5), some (.inl l5_2), some (.inl l6_6), dv o7]) (S' := []) (σ' := (SH L0, D)) (fun _ _ => rfl) ?_
          obtain ⟨x11, hx, hv⟩ := bnd hv
          refine ev_bind hx 6 (pc' := 88) (L' := fun x11 => [some (.inr (.inr 187)), some (.inl p1), some (.inl p2), some (.inl p3), some (.inl l4_5), some (.inl l5_2), some (.inl l6_6), dv o7]) (S' := fun x11 => [.inl x11]) (σ' := fun x11 => (SH L0, D)) (fun _ _ => rfl) ?_
          rcases ite_or hv with ⟨hc, hv⟩ | ⟨hc, hv⟩
          · refine ev_ift hc 2 (pc' := 93) (L' := [some (.inr (.inr 187)), some (.inl p1), some (.inl p2), some (.inl p3), some (.inl l4_5), some (.inl l5_2), some (.inl l6_6), dv o7]) (S' := []) (σ' := (SH L0, D)) (fun _ _ => rfl) ?_
            obtain ⟨x12, hx, hv⟩ := bnd hv
            refine ev_bind hx 6 (pc' := 104) (L' := fun x12 => [some (.inr (.inr 187)), some (.inl p1), some (.inl p2), some (.inl p3), some (.inl l4_5), some (.inl l5_2), some (.inl l6_6), dv o7]) (S' := fun x12 => [.inl x12]) (σ' := fun x12 => (SH L0, D)) (fun _ _ => rfl) ?_
            rcases ite_or hv with ⟨hc, hv⟩ | ⟨hc, hv⟩
            · refine ev_ift hc 1 (pc' := 135) (L' := [some (.inr (.inr 187)), some (.inl p1), some (.inl p2), some (.inl p3), some (.inl l4_5), some (.inl l5_2), some (.inl l6_6), dv o7]) (S' := []) (σ' := (SH L0, D)) (fun _ _ => rfl) ?_
              have he0 := Option.some.inj hv
              subst he0
              exact ev_go 1 (pc' := 136) (L' := [some (.inr (.inr 187)), some (.inl p1), some (.inl p2), some (.inl p3), some (.inl l4_5), some (.inl l5_2), some (.inl l6_6), dv o7]) (S' := [.inl 0]) (σ' := (SH L0, D)) (fun _ _ => rfl) hJ
            · refine ev_iff hc 1 (pc' := 107) (L' := [some (.inr (.inr 187)), some (.inl p1), some (.inl p2), some (.inl p3), some (.inl l4_5), some (.inl l5_2), some (.inl l6_6), dv o7]) (S' := []) (σ' := (SH L0, D)) (fun _ _ => rfl) ?_
              obtain ⟨x13, hx, hv⟩ := bnd hv
              refine ev_bind hx 11 (pc' := 125) (L' := fun x13 => [some (.inr (.inr 187)), some (.inl p1), some (.inl p2), some (.inl p3), some (.inl l4_5), some (.inl l5_2), some (.inl l6_6), dv o7]) (S' := fun x13 => [.inl x13, .inl p3, .inl p2, .inr (.inr 198), .inr (.inr 187)]) (σ' := fun x13 => (SH L0, D)) (fun _ _ => rfl) ?_
              obtain ⟨x14, hx, hv⟩ := bnd hv
              refine ev_call (e_X12_isIn__187_198 L0 d (by omega) hx) 1 (pc' := 128) (L' := [some (.inr (.inr 187)), some (.inl p1), some (.inl p2), some (.inl p3), some (.inl l4_5), some (.inl l5_2), some (.inl l6_6), dv o7]) (S' := []) (fun _ _ => rfl) ?_
              rcases ite_or hv with ⟨hc, hv⟩ | ⟨hc, hv⟩
              · refine ev_ift hc 1 (pc' := 135) (L' := [some (.inr (.inr 187)), some (.inl p1), some (.inl p2), some (.inl p3), some (.inl l4_5), some (.inl l5_2), some (.inl l6_6), dv o7]) (S' := []) (σ' := (SH L0, D)) (fun _ _ => rfl) ?_
                have he0 := Option.some.inj hv
                subst he0
                exact ev_go 1 (pc' := 136) (L' := [some (.inr (.inr 187)), some (.inl p1), some (.inl p2), some (.inl p3), some (.inl l4_5), some (.inl l5_2), some (.inl l6_6), dv o7]) (S' := [.inl 0]) (σ' := (SH L0, D)) (fun _ _ => rfl) hJ
              · refine ev_iff hc 1 (pc' := 131) (L' := [some (.inr (.inr 187)), some (.inl p1), some (.inl p2), some (.inl p3), some (.inl l4_5), some (.inl l5_2), some (.inl l6_6), dv o7]) (S' := []) (σ' := (SH L0, D)) (fun _ _ => rfl) ?_
                have he0 := Option.some.inj hv
                subst he0
                exact ev_go 2 (pc' := 136) (L' := [some (.inr (.inr 187)), some (.inl p1), some (.inl p2), some (.inl p3), some (.inl l4_5), some (.inl l5_2), some (.inl l6_6), dv o7]) (S' := [.inl 1]) (σ' := (SH L0, D)) (fun _ _ => rfl) hJ
          · refine ev_iff hc 2 (pc' := 135) (L' := [some (.inr (.inr 187)), some (.inl p1), some (.inl p2), some (.inl p3), some (.inl l4_5), some (.inl l5_2), some (.inl l6_6), dv o7]) (S' := []) (σ' := (SH L0, D)) (fun _ _ => rfl) ?_
            have he0 := Option.some.inj hv
            subst he0
            exact ev_go 1 (pc' := 136) (L' := [some (.inr (.inr 187)), some (.inl p1), some (.inl p2), some (.inl p3), some (.inl l4_5), some (.inl l5_2), some (.inl l6_6), dv o7]) (S' := [.inl 0]) (σ' := (SH L0, D)) (fun _ _ => rfl) hJ
        · refine ev_iff hc 1 (pc' := 53) (L' := [some (.inr (.inr 187)), some (.inl p1), some (.inl p2), some (.inl p3), some (.inl l4_5), some (.inl l5_2), some (.inl l6_6), dv o7]) (S' := []) (σ' := (SH L0, D)) (fun _ _ => rfl) ?_
          obtain ⟨x15, hx, hv⟩ := bnd hv
          refine ev_bind hx 11 (pc' := 71) (L' := fun x15 => [some (.inr (.inr 187)), some (.inl p1), some (.inl p2), some (.inl p3), some (.inl l4_5), some (.inl l5_2), some (.inl l6_6), dv o7]) (S' := fun x15 => [.inl x15, .inl p3, .inl p2, .inr (.inr 198), .inr (.inr 187)]) (σ' := fun x15 => (SH L0, D)) (fun _ _ => rfl) ?_
          obtain ⟨x16, hx, hv⟩ := bnd hv
          refine ev_call (e_X12_isIn__187_198 L0 d (by omega) hx) 1 (pc' := 74) (L' := [some (.inr (.inr 187)), some (.inl p1), some (.inl p2), some (.inl p3), some (.inl l4_5), some (.inl l5_2), some (.inl l6_6), dv o7]) (S' := []) (fun _ _ => rfl) ?_
          rcases ite_or hv with ⟨hc, hv⟩ | ⟨hc, hv⟩
          · refine ev_ift hc 1 (pc' := 77) (L' := [some (.inr (.inr 187)), some (.inl p1), some (.inl p2), some (.inl p3), some (.inl l4_5), some (.inl l5_2), some (.inl l6_6), dv o7]) (S' := []) (σ' := (SH L0, D)) (fun _ _ => rfl) ?_
            obtain ⟨x17, hx, hv⟩ := bnd hv
            refine ev_bind hx 6 (pc' := 88) (L' := fun x17 => [some (.inr (.inr 187)), some (.inl p1), some (.inl p2), some (.inl p3), some (.inl l4_5), some (.inl l5_2), some (.inl l6_6), dv o7]) (S' := fun x17 => [.inl x17]) (σ' := fun x17 => (SH L0, D)) (fun _ _ => rfl) ?_
            rcases ite_or hv with ⟨hc, hv⟩ | ⟨hc, hv⟩
            · refine ev_ift hc 2 (pc' := 93) (L' := [some (.inr (.inr 187)), some (.inl p1), some (.inl p2), some (.inl p3), some (.inl l4_5), some (.inl l5_2), some (.inl l6_6), dv o7]) (S' := []) (σ' := (SH L0, D)) (fun _ _ => rfl) ?_
              obtain ⟨x18, hx, hv⟩ := bnd hv
              refine ev_bind hx 6 (pc' := 104) (L' := fun x18 => [some (.inr (.inr 187)), some (.inl p1), some (.inl p2), some (.inl p3), some (.inl l4_5), some (.inl l5_2), some (.inl l6_6), dv o7]) (S' := fun x18 => [.inl x18]) (σ' := fun x18 => (SH L0, D)) (fun _ _ => rfl) ?_
              rcases ite_or hv with ⟨hc, hv⟩ | ⟨hc, hv⟩
              · refine ev_ift hc 1 (pc' := 135) (L' := [some (.inr (.inr 187)), some (.inl p1), some (.inl p2), some (.inl p3), some (.inl l4_5), some (.inl l5_2), some (.inl l6_6), dv o7]) (S' := []) (σ' := (SH L0, D)) (fun _ _ => rfl) ?_
                have he0 := Option.some.inj hv
                subst he0
                exact ev_go 1 (pc' := 136) (L' := [some (.inr (.inr 187)), some (.inl p1), some (.inl p2), some (.inl p3), some (.inl l4_5), some (.inl l5_2), some (.inl l6_6), dv o7]) (S' := [.inl 0]) (σ' := (SH L0, D)) (fun _ _ => rfl) hJ
              · refine ev_iff hc 1 (pc' := 107) (L' := [some (.inr (.inr 187)), some (.inl p1), some (.inl p2), some (.inl p3), some (.inl l4_5), some (.inl l5_2), some (.inl l6_6), dv o7]) (S' := []) (σ' := (SH L0, D)) (fun _ _ => rfl) ?_
                obtain ⟨x19, hx, hv⟩ := bnd hv
                refine ev_bind hx 11 (pc' := 125) (L' := fun x19 => [some (.inr (.inr 187)), some (.inl p1), some (.inl p2), some (.inl p3), some (.inl l4_5), some (.inl l5_2), some (.inl l6_6), dv o7]) (S' := fun x19 => [.inl x19, .inl p3, .inl p2, .inr (.inr 198), .inr (.inr 187)]) (σ' := fun x19 => (SH L0, D)) (fun _ _ => rfl) ?_
                obtain ⟨x20, hx, hv⟩ := bnd hv
                refine ev_call (e_X12_isIn__187_198 L0 d (by omega) hx) 1 (pc' := 128) (L' := [some (.inr (.inr 187)), some (.inl p1), some (.inl p2), some (.inl p3), some (.inl l4_5), some (.inl l5_2), some (.inl l6_6), dv o7]) (S' := []) (fun _ _ => rfl) ?_
                rcases ite_or hv with ⟨hc, hv⟩ | ⟨hc, hv⟩
                · refine ev_ift hc 1 (pc' := 135) (L' := [some (.inr (.inr 187)), some (.inl p1), some (.inl p2), some (.inl p3), some (.inl l4_5), some (.inl l5_2), some (.inl l6_6), dv o7]) (S' := []) (σ' := (SH L0, D)) (fun _ _ => rfl) ?_
                  have he0 := Option.some.inj hv
                  subst he0
                  exact ev_go 1 (pc' := 136) (L' := [some (.inr (.inr 187)), some (.inl p1), some (.inl p2), some (.inl p3), some (.inl l4_5), some (.inl l5_2), some (.inl l6_6), dv o7]) (S' := [.inl 0]) (σ' := (SH L0, D)) (fun _ _ => rfl) hJ
                · refine ev_iff hc 1 (pc' := 131) (L' := [some (.inr (.inr 187)), some (.inl p1), some (.inl p2), some (.inl p3), some (.inl l4_5), some (.inl l5_2), some (.inl l6_6), dv o7]) (S' := []) (σ' := (SH L0, D)) (fun _ _ => rfl) ?_
                  have he0 := Option.some.inj hv
                  subst he0
                  exact ev_go 2 (pc' := 136) (L' := [some (.inr (.inr 187)), some (.inl p1), some (.inl p2), some (.inl p3), some (.inl l4_5), some (.inl l5_2), some (.inl l6_6), dv o7]) (S' := [.inl 1]) (σ' := (SH L0, D)) (fun _ _ => rfl) hJ
            · refine ev_iff hc 2 (pc' := 135) (L' := [some (.inr (.inr 187)), some (.inl p1), some (.inl p2), some (.inl p3), some (.inl l4_5), some (.inl l5_2), some (.inl l6_6), dv o7]) (S' := []) (σ' := (SH L0, D)) (fun _ _ => rfl) ?_
              have he0 := Option.some.inj hv
              subst he0
              exact ev_go 1 (pc' := 136) (L' := [some (.inr (.inr 187)), some (.inl p1), some (.inl p2), some (.inl p3), some (.inl l4_5), some (.inl l5_2), some (.inl l6_6), dv o7]) (S' := [.inl 0]) (σ' := (SH L0, D)) (fun _ _ => rfl) hJ
          · refine ev_iff hc 1 (pc' := 131) (L' := [some (.inr (.inr 187)), some (.inl p1), some (.inl p2), some (.inl p3), some (.inl l4_5), some (.inl l5_2), some (.inl l6_6), dv o7]) (S' := []) (σ' := (SH L0, D)) (fun _ _ => rfl) ?_
            have he0 := Option.some.inj hv
            subst he0
            exact ev_go 2 (pc' := 136) (L' := [some (.inr (.inr 187)), some (.inl p1), some (.inl p2), some (.inl p3), some (.inl l4_5), some (.inl l5_2), some (.inl l6_6), dv o7]) (S' := [.inl 1]) (σ' := (SH L0, D)) (fun _ _ => rfl) hJ
      · refine ev_iff hc 2 (pc' := 77) (L' := [some (.inr (.inr 187)), some (.inl p1), some (.inl p2), some (.inl p3), some (.inl l4_5), some (.inl l5_2), some (.inl l6_6), dv o7]) (S' := []) (σ' := (SH L0, D)) (fun _ _ => rfl) ?_
        obtain ⟨x21, hx, hv⟩ := bnd hv
        refine ev_bind hx 6 (pc' := 88) (L' := fun x21 => [some (.inr (.inr 187)), some (.inl p1), some (.inl p2), some (.inl p3), some (.inl l4_5), some (.inl l5_2), some (.inl l6_6), dv o7]) (S' := fun x21 => [.inl x21]) (σ' := fun x21 => (SH L0, D)) (fun _ _ => rfl) ?_
        rcases ite_or hv with ⟨hc, hv⟩ | ⟨hc, hv⟩
        · refine ev_ift hc 2 (pc' := 93) (L' := [some (.inr (.inr 187)), some (.inl p1), some (.inl p2), some (.inl p3), some (.inl l4_5), some (.inl l5_2), some (.inl l6_6), dv o7]) (S' := []) (σ' := (SH L0, D)) (fun _ _ => rfl) ?_
          obtain ⟨x22, hx, hv⟩ := bnd hv
          refine ev_bind hx 6 (pc' := 104) (L' := fun x22 => [some (.inr (.inr 187)), some (.inl p1), some (.inl p2), some (.inl p3), some (.inl l4_5), some (.inl l5_2), some (.inl l6_6), dv o7]) (S' := fun x22 => [.inl x22]) (σ' := fun x22 => (SH L0, D)) (fun _ _ => rfl) ?_
          rcases ite_or hv with ⟨hc, hv⟩ | ⟨hc, hv⟩
          · refine ev_ift hc 1 (pc' := 135) (L' := [some (.inr (.inr 187)), some (.inl p1), some (.inl p2), some (.inl p3), some (.inl l4_5), some (.inl l5_2), some (.inl l6_6), dv o7]) (S' := []) (σ' := (SH L0, D)) (fun _ _ => rfl) ?_
            have he0 := Option.some.inj hv
            subst he0
            exact ev_go 1 (pc' := 136) (L' := [some (.inr (.inr 187)), some (.inl p1), some (.inl p2), some (.inl p3), some (.inl l4_5), some (.inl l5_2), some (.inl l6_6), dv o7]) (S' := [.inl 0]) (σ' := (SH L0, D)) (fun _ _ => rfl) hJ
          · refine ev_iff hc 1 (pc' := 107) (L' := [some (.inr (.inr 187)), some (.inl p1), some (.inl p2), some (.inl p3), some (.inl l4_5), some (.inl l5_2), some (.inl l6_6), dv o7]) (S' := []) (σ' := (SH L0, D)) (fun _ _ => rfl) ?_
            obtain ⟨x23, hx, hv⟩ := bnd hv
            refine ev_bind hx 11 (pc' := 125) (L' := fun x23 => [some (.inr (.inr 187)), some (.inl p1), some (.inl p2), some (.inl p3), some (.inl l4_5), some (.inl l5_2), some (.inl l6_6), dv o7]) (S' := fun x23 => [.inl x23, .inl p3, .inl p2, .inr (.inr 198), .inr (.inr 187)]) (σ' := fun x23 => (SH L0, D)) (fun _ _ => rfl) ?_
            obtain ⟨x24, hx, hv⟩ := bnd hv
            refine ev_call (e_X12_isIn__187_198 L0 d (by omega) hx) 1 (pc' := 128) (L' := [some (.inr (.inr 187)), some (.inl p1), some (.inl p2), some (.inl p3), some (.inl l4_5), some (.inl l5_2), some (.inl l6_6), dv o7]) (S' := []) (fun _ _ => rfl) ?_
            rcases ite_or hv with ⟨hc, hv⟩ | ⟨hc, hv⟩
            · refine ev_ift hc 1 (pc' := 135) (L' := [some (.inr (.inr 187)), some (.inl p1), some (.inl p2), some (.inl p3), some (.inl l4_5), some (.inl l5_2), some (.inl l6_6), dv o7]) (S' := []) (σ' := (SH L0, D)) (fun _ _ => rfl) ?_
              have he0 := Option.some.inj hv
              subst he0
              exact ev_go 1 (pc' := 136) (L' := [some (.inr (.inr 187)), some (.inl p1), some (.inl p2), some (.inl p3), some (.inl l4_5), some (.inl l5_2), some (.inl l6_6), dv o7]) (S' := [.inl 0]) (σ' := (SH L0, D)) (fun _ _ => rfl) hJ
            · refine ev_iff hc 1 (pc' := 131) (L' := [some (.inr (.inr 187)), some (.inl p1), some (.inl p2), some (.inl p3), some (.inl l4_5), some (.inl l5_2), some (.inl l6_6), dv o7]) (S' := []) (σ' := (SH L0, D)) (fun _ _ => rfl) ?_
              have he0 := Option.some.inj hv
              subst he0
              exact ev_go 2 (pc' := 136) (L' := [some (.inr (.inr 187)), some (.inl p1), some (.inl p2), some (.inl p3), some (.inl l4_5), some (.inl l5_2), some (.inl l6_6), dv o7]) (S' := [.inl 1]) (σ' := (SH L0, D)) (fun _ _ => rfl) hJ
        · refine ev_iff hc 2 (pc' := 135) (L' := [some (.inr (.inr 187)), some (.inl p1), some (.inl p2), some (.inl p3), some (.inl l4_5), some (.inl l5_2), some (.inl l6_6), dv o7]) (S' := []) (σ' := (SH L0, D)) (fun _ _ => rfl) ?_
          have he0 := Option.some.inj hv
          subst he0
          exact ev_go 1 (pc' := 136) (L' := [some (.inr (.inr 187)), some (.inl p1), some (.inl p2), some (.inl p3), some (.inl l4_5), some (.inl l5_2), some (.inl l6_6), dv o7]) (S' := [.inl 0]) (σ' := (SH L0, D)) (fun _ _ => rfl) hJ
    · refine ev_iff hc 1 (pc' := 168) (L' := [some (.inr (.inr 187)), some (.inl p1), some (.inl p2), some (.inl p3), some (.inl l4_5), some (.inl l5_2), some (.inl l6_6), dv o7]) (S' := []) (σ' := (SH L0, D)) (fun _ _ => rfl) ?_
      cases hb
      exact hK1 (some (.inl l6_6)) o7
