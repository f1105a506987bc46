set_option maxRecDepth 100000 in
set_option maxHeartbeats 4000000 in
theorem e_X7_member_4 (L0 d : Nat) (hd : 1 ≤ d) {p1 p2 : Int} {D : DT} {t0 : Int} (h : m_X7_member 4 p1 p2 D = some t0) : Ret mtab d 81 [.inr (.inr 4), .inl p1, .inl p2] (SH L0, D) (some (.inl t0), (SH L0, D)) := by
  obtain ⟨d, rfl⟩ : ∃ e, d = e + 1 := ⟨d - 1, by omega⟩
  refine Ret.of (code := k_X7_member) (ml := 3) rfl ?_
  show EvF mtab d k_X7_member 0 [some (.inr (.inr 4)), some (.inl p1), some (.inl p2)] [] (SH L0, D) (some (.inl t0), (SH L0, D))
  unfold m_X7_member at h
  obtain ⟨x1, hx, h⟩ := bnd h
  refine ev_bind hx 6 (pc' := 10) (L' := fun x1 => [some (.inr (.inr 4)), some (.inl p1), some (.inl p2)]) (S' := fun x1 => [.inl x1, .inr (.inr 7)]) (σ' := fun x1 => (SH L0, D)) (fun _ _ => rfl) ?_
  obtain ⟨x2, hx, h⟩ := bnd h
  refine ev_bind hx 3 (pc' := 13) (L' := fun x2 => [some (.inr (.inr 4)), some (.inl p1), some (.inl p2)]) (S' := fun x2 => [.inl x2]) (σ' := fun x2 => (SH L0, D)) (fun _ _ => rfl) ?_
  cases h
  exact ev_ret 1 (fun _ _ => rfl)
set_option maxRecDepth 100000 in
set_option maxHeartbeats 4000000 in
theorem e_X7_member_19 (L0 d : Nat) (hd : 1 ≤ d) {p1 p2 : Int} {D : DT} {t0 : Int} (h : m_X7_member 19 p1 p2 D = some t0) : Ret mtab d 81 [.inr (.inr 19), .inl p1, .inl p2] (SH L0, D) (some (.inl t0), (SH L0, D)) := by
  obtain ⟨d, rfl⟩ : ∃ e, d = e + 1 := ⟨d - 1, by omega⟩
  refine Ret.of (code := k_X7_member) (ml := 3) rfl ?_
  show EvF mtab d k_X7_member 0 [some (.inr (.inr 19)), some (.inl p1), some (.inl p2)] [] (SH L0, D) (some (.inl t0), (SH L0, D))
  unfold m_X7_member at h
  obtain ⟨x1, hx, h⟩ := bnd h
  refine ev_bind hx 6 (pc' := 10) (L' := fun x1 => [some (.inr (.inr 19)), some (.inl p1), some (.inl p2)]) (S' := fun x1 => [.inl x1, .inr (.inr 22)]) (σ' := fun x1 => (SH L0, D)) (fun _ _ => rfl) ?_
  obtain ⟨x2, hx, h⟩ := bnd h
  refine ev_bind hx 3 (pc' := 13) (L' := fun x2 => [some (.inr (.inr 19)), some (.inl p1), some (.inl p2)]) (S' := fun x2 => [.inl x2]) (σ' := fun x2 => (SH L0, D)) (fun _ _ => rfl) ?_
  cases h
  exact ev_ret 1 (fun _ _ => rfl)
set_option maxRecDepth 100000 in
set_option maxHeartbeats 4000000 in
theorem e_X0_part (L0 d : Nat) (hd : 2 ≤ d) {p1 : Int} {D : DT} {t0 : DT} (h : m_X0_part p1 D = some t0) : Ret mtab d 2 [.inr (.inr 131), .inl p1] (SH L0, D) (none, (SH L0, t0)) := by
  obtain ⟨d, rfl⟩ : ∃ e, d = e + 1 := ⟨d - 1, by omega⟩
  refine Ret.of (code := k_X0_part) (ml := 4) rfl ?_
  show EvF mtab d k_X0_part 0 [some (.inr (.inr 131)), some (.inl p1), none, none] [] (SH L0, D) (none, (SH L0, t0))
  unfold m_X0_part at h
  obtain ⟨r, hr, h⟩ := bnd h
  have hX : (fun (r : DT) => ∀ (o11 : Option (Sum Int Nat)) (o12 : Option (Sum Int Nat)), EvF mtab d k_X0_part 59 [some (.inr (.inr 131)), some (.inl p1), dv o11, dv o12] [] (SH L0, r) (none, (SH L0, t0))) r := by
    obtain ⟨D13, hre⟩ : ∃ q, q = r := ⟨r, rfl⟩
    subst hre
    intro o11 o12
    show EvF mtab d k_X0_part 59 [some (.inr (.inr 131)), some (.inl p1), dv o11, dv o12] [] (SH L0, D13) (none, (SH L0, t0))
    cases h
    exact ev_ret 1 (fun _ _ => rfl)
  clear h
  refine ev_go 2 (pc' := 2) (L' := [some (.inr (.inr 131)), some (.inl p1), some (.inl 0), none]) (S' := []) (σ' := (SH L0, D)) (fun _ _ => rfl) ?_
  refine loop_ind (P := fun s => ∀ (o2 : Option (Sum Int Nat)), EvF mtab d k_X0_part 2 [some (.inr (.inr 131)), some (.inl p1), some (.inl s.1), dv o2] [] (SH L0, s.2) (none, (SH L0, t0))) (X := fun r => ∀ (o11 : Option (Sum Int Nat)) (o12 : Option (Sum Int Nat)), EvF mtab d k_X0_part 59 [some (.inr (.inr 131)), some (.inl p1), dv o11, dv o12] [] (SH L0, r) (none, (SH L0, t0))) hr hX ?_ none
  clear hr hX
  intro s t hb hK0
  obtain ⟨l2_1, D3⟩ := s
  intro o2
  show EvF mtab d k_X0_part 2 [some (.inr (.inr 131)), some (.inl p1), some (.inl l2_1), dv o2] [] (SH L0, D3) (none, (SH L0, t0))
  unfold b_X0_part_2 at hb
  obtain ⟨x4, hx, hb⟩ := bnd hb
  refine ev_bind hx 6 (pc' := 12) (L' := fun x4 => [some (.inr (.inr 131)), some (.inl p1), some (.inl l2_1), dv o2]) (S' := fun x4 => [.inl x4, .inl l2_1]) (σ' := fun x4 => (SH L0, D3)) (fun _ _ => rfl) ?_
  rcases ite_or hb with ⟨hc, hb⟩ | ⟨hc, hb⟩
  · refine ev_ift hc 1 (pc' := 15) (L' := [some (.inr (.inr 131)), some (.inl p1), some (.inl l2_1), dv o2]) (S' := []) (σ' := (SH L0, D3)) (fun _ _ => rfl) ?_
    obtain ⟨x5, hx, hb⟩ := bnd hb
    refine ev_call (e_X7_member_4 L0 d (by omega) hx) 5 (pc' := 24) (L' := [some (.inr (.inr 131)), some (.inl p1), some (.inl l2_1), dv o2]) (S' := []) (fun _ _ => rfl) ?_
    obtain ⟨D6, hx, hb⟩ := bnd hb
    refine ev_bind hx 6 (pc' := 32) (L' := fun D6 => [some (.inr (.inr 131)), some (.inl p1), some (.inl l2_1), some (.inl x5)]) (S' := fun D6 => []) (σ' := fun D6 => (SH L0, D6)) (fun _ _ => rfl) ?_
    obtain ⟨D7, hx, hb⟩ := bnd hb
    refine ev_bind hx 5 (pc' := 39) (L' := fun D7 => [some (.inr (.inr 131)), some (.inl p1), some (.inl l2_1), some (.inl x5)]) (S' := fun D7 => []) (σ' := fun D7 => (SH L0, D7)) (fun _ _ => rfl) ?_
    obtain ⟨D8, hx, hb⟩ := bnd hb
    refine ev_bind hx 5 (pc' := 46) (L' := fun D8 => [some (.inr (.inr 131)), some (.inl p1), some (.inl l2_1), some (.inl x5)]) (S' := fun D8 => []) (σ' := fun D8 => (SH L0, D8)) (fun _ _ => rfl) ?_
    obtain ⟨x9, hx, hb⟩ := bnd hb
    obtain ⟨D10, hy, hb⟩ := bnd hb
    refine ev_bind2 (Y := fun x9 => awr D8 140 40 x5 x9) hx hy 5 (pc' := 53) (L' := fun x9 D10 => [some (.inr (.inr 131)), some (.inl p1), some (.inl l2_1), some (.inl x5)]) (S' := fun x9 D10 => []) (σ' := fun x9 D10 => (SH L0, D10)) (fun _ _ => rfl) ?_
    cases hb
    exact ev_go 2 (pc' := 2) (L' := [some (.inr (.inr 131)), some (.inl p1), some (.inl (w32 (l2_1 + 1))), some (.inl x5)]) (S' := []) (σ' := (SH L0, D10)) (fun _ _ => rfl) (hK0 (some (.inl x5)))
  · refine ev_iff hc 1 (pc' := 59) (L' := [some (.inr (.inr 131)), some (.inl p1), some (.inl l2_1), dv o2]) (S' := []) (σ' := (SH L0, D3)) (fun _ _ => rfl) ?_
    cases hb
    exact hK0 (some (.inl l2_1)) o2
set_option maxRecDepth 100000 in
set_option maxHeartbeats 4000000 in
theorem e_X7_arcsOf (L0 d : Nat) (hd : 1 ≤ d) {p1 : Int} {D : DT} {t0 : Int} (h : m_X7_arcsOf p1 D = some t0) : Ret mtab d 86 [.inr (.inr 4), .inl p1] (SH L0, D) (some (.inl t0), (SH L0, D)) := by
  obtain ⟨d, rfl⟩ : ∃ e, d = e + 1 := ⟨d - 1, by omega⟩
  refine Ret.of (code := k_X7_arcsOf) (ml := 2) rfl ?_
  show EvF mtab d k_X7_arcsOf 0 [some (.inr (.inr 4)), some (.inl p1)] [] (SH L0, D) (some (.inl t0), (SH L0, D))
  unfold m_X7_arcsOf at h
  obtain ⟨x1, hx, h⟩ := bnd h
  refine ev_bind hx 4 (pc' := 6) (L' := fun x1 => [some (.inr (.inr 4)), some (.inl p1)]) (S' := fun x1 => [.inl x1]) (σ' := fun x1 => (SH L0, D)) (fun _ _ => rfl) ?_
  rcases ite_or h with ⟨hc, h⟩ | ⟨hc, h⟩
  · refine ev_ift hc 2 (pc' := 10) (L' := [some (.inr (.inr 4)), some (.inl p1)]) (S' := []) (σ' := (SH L0, D)) (fun _ _ => rfl) ?_
    cases h
    exact ev_ret 3 (fun _ _ => rfl)
  · refine ev_iff hc 2 (pc' := 14) (L' := [some (.inr (.inr 4)), some (.inl p1)]) (S' := []) (σ' := (SH L0, D)) (fun _ _ => rfl) ?_
    cases h
    exact ev_ret 2 (fun _ _ => rfl)
set_option maxRecDepth 100000 in
set_option maxHeartbeats 4000000 in
theorem e_X7_isInside_4 (L0 d : Nat) (hd : 1 ≤ d) {p1 : Int} {D : DT} {t0 : Int} (h : m_X7_isInside 4 p1 D = some t0) : Ret mtab d 87 [.inr (.inr 4), .inl p1] (SH L0, D) (some (.inl t0), (SH L0, D)) := by
  obtain ⟨d, rfl⟩ : ∃ e, d = e + 1 := ⟨d - 1, by omega⟩
  refine Ret.of (code := k_X7_isInside) (ml := 2) rfl ?_
  show EvF mtab d k_X7_isInside 0 [some (.inr (.inr 4)), some (.inl p1)] [] (SH L0, D) (some (.inl t0), (SH L0, D))
  unfold m_X7_isInside at h
  obtain ⟨x1, hx, h⟩ := bnd h
  refine ev_bind hx 4 (pc' := 6) (L' := fun x1 => [some (.inr (.inr 4)), some (.inl p1)]) (S' := fun x1 => [.inl x1]) (σ' := fun x1 => (SH L0, D)) (fun _ _ => rfl) ?_
  rcases ite_or h with ⟨hc, h⟩ | ⟨hc, h⟩
  · refine ev_ift hc 2 (pc' := 24) (L' := [some (.inr (.inr 4)), some (.inl p1)]) (S' := []) (σ' := (SH L0, D)) (fun _ _ => rfl) ?_
    cases h
    exact ev_ret 2 (fun _ _ => rfl)
  · refine ev_iff hc 2 (pc' := 10) (L' := [some (.inr (.inr 4)), some (.inl p1)]) (S' := []) (σ' := (SH L0, D)) (fun _ _ => rfl) ?_
    obtain ⟨x2, hx, h⟩ := bnd h
    refine ev_bind hx 4 (pc' := 16) (L' := fun x2 => [some (.inr (.inr 4)), some (.inl p1)]) (S' := fun x2 => [.inl x2]) (σ' := fun x2 => (SH L0, D)) (fun _ _ => rfl) ?_
    rcases ite_or h with ⟨hc, h⟩ | ⟨hc, h⟩
    · refine ev_ift hc 2 (pc' := 24) (L' := [some (.inr (.inr 4)), some (.inl p1)]) (S' := []) (σ' := (SH L0, D)) (fun _ _ => rfl) ?_
      cases h
      exact ev_ret 2 (fun _ _ => rfl)
    · refine ev_iff hc 2 (pc' := 20) (L' := [some (.inr (.inr 4)), some (.inl p1)]) (S' := []) (σ' := (SH L0, D)) (fun _ _ => rfl) ?_
      cases h
      exact ev_ret 3 (fun _ _ => rfl)
set_option maxRecDepth 100000 in
set_option maxHeartbeats 4000000 in
theorem e_X7_isInside_19 (L0 d : Nat) (hd : 1 ≤ d) {p1 : Int} {D : DT} {t0 : Int} (h : m_X7_isInside 19 p1 D = some t0) : Ret mtab d 87 [.inr (.inr 19), .inl p1] (SH L0, D) (some (.inl t0), (SH L0, D)) := by
  obtain ⟨d, rfl⟩ : ∃ e, d = e + 1 := ⟨d - 1, by omega⟩
  refine Ret.of (code := k_X7_isInside) (ml := 2) rfl ?_
  show EvF mtab d k_X7_isInside 0 [some (.inr (.inr 19)), some (.inl p1)] [] (SH L0, D) (some (.inl t0), (SH L0, D))
  unfold m_X7_isInside at h
  obtain ⟨x1, hx, h⟩ := bnd h
  refine ev_bind hx 4 (pc' := 6) (L' := fun x1 => [some (.inr (.inr 19)), some (.inl p1)]) (S' := fun x1 => [.inl x1]) (σ' := fun x1 => (SH L0, D)) (fun _ _ => rfl) ?_
  rcases ite_or h with ⟨hc, h⟩ | ⟨hc, h⟩
  · refine ev_ift hc 2 (pc' := 24) (L' := [some (.inr (.inr 19)), some (.inl p1)]) (S' := []) (σ' := (SH L0, D)) (fun _ _ => rfl) ?_
    cases h
    exact ev_ret 2 (fun _ _ => rfl)
  · refine ev_iff hc 2 (pc' := 10) (L' := [some (.inr (.inr 19)), some (.inl p1)]) (S' := []) (σ' := (SH L0, D)) (fun _ _ => rfl) ?_
    obtain ⟨x2, hx, h⟩ := bnd h
    refine ev_bind hx 4 (pc' := 16) (L' := fun x2 => [some (.inr (.inr 19)), some (.inl p1)]) (S' := fun x2 => [.inl x2]) (σ' := fun x2 => (SH L0, D)) (fun _ _ => rfl) ?_
    rcases ite_or h with ⟨hc, h⟩ | ⟨hc, h⟩
    · refine ev_ift hc 2 (pc' := 24) (L' := [some (.inr (.inr 19)), some (.inl p1)]) (S' := []) (σ' := (SH L0, D)) (fun _ _ => rfl) ?_
      cases h
      exact ev_ret 2 (fun _ _ => rfl)
    · refine ev_iff hc 2 (pc' := 20) (L' := [some (.inr (.inr 19)), some (.inl p1)]) (S' := []) (σ' := (SH L0, D)) (fun _ _ => rfl) ?_
      cases h
      exact ev_ret 3 (fun _ _ => rfl)
set_option maxRecDepth 100000 in
set_option maxHeartbeats 4000000 in
theorem e_X0_listArcs (L0 d : Nat) (hd : 2 ≤ d) {p1 : Int} {D : DT} {t0 : (Int × DT)} (h : m_X0_listArcs p1 D = some t0) : Ret mtab d 3 [.inr (.inr 131), .inl p1] (SH L0, D) (some (.inl t0.1), (SH L0, t0.2)) := by
  obtain ⟨d, rfl⟩ : ∃ e, d = e + 1 := ⟨d - 1, by omega⟩
  refine Ret.of (code := k_X0_listArcs) (ml := 7) rfl ?_
  show EvF mtab d k_X0_listArcs 0 [some (.inr (.inr 131)), some (.inl p1), none, none, none, none, none] [] (SH L0, D) (some (.inl t0.1), (SH L0, t0.2))
  unfold m_X0_listArcs at h
  obtain ⟨r, hr, h⟩ := bnd h
  have hX : (fun (r : (Int × DT)) => ∀ (o25 : Option (Sum Int Nat)) (o26 : Option (Sum Int Nat)) (o27 : Option (Sum Int Nat)) (o28 : Option (Sum Int Nat)), EvF mtab d k_X0_listArcs 114 [some (.inr (.inr 131)), some (.inl p1), some (.inl r.1), dv o25, dv o26, dv o27, dv o28] [] (SH L0, r.2) (some (.inl t0.1), (SH L0, t0.2))) r := by
    obtain ⟨l2_24, D29⟩ := r
    intro o25 o26 o27 o28
    show EvF mtab d k_X0_listArcs 114 [some (.inr (.inr 131)), some (.inl p1), some (.inl l2_24), dv o25, dv o26, dv o27, dv o28] [] (SH L0, D29) (some (.inl t0.1), (SH L0, t0.2))
    cases h
    exact ev_ret 2 (fun _ _ => rfl)
  clear h
  refine ev_go 4 (pc' := 4) (L' := [some (.inr (.inr 131)), some (.inl p1), some (.inl 0), some (.inl 0), none, none, none]) (S' := []) (σ' := (SH L0, D)) (fun _ _ => rfl) ?_
  refine loop_ind (P := fun s => ∀ (o3 : Option (Sum Int Nat)) (o4 : Option (Sum Int Nat)) (o5 : Option (Sum Int Nat)), EvF mtab d k_X0_listArcs 4 [some (.inr (.inr 131)), some (.inl p1), some (.inl s.1), some (.inl s.2.1), dv o3, dv o4, dv o5] [] (SH L0, s.2.2) (some (.inl t0.1), (SH L0, t0.2))) (X := fun r => ∀ (o25 : Option (Sum Int Nat)) (o26 : Option (Sum Int Nat)) (o27 : Option (Sum Int Nat)) (o28 : Option (Sum Int Nat)), EvF mtab d k_X0_listArcs 114 [some (.inr (.inr 131)), some (.inl p1), some (.inl r.1), dv o25, dv o26, dv o27, dv o28] [] (SH L0, r.2) (some (.inl t0.1), (SH L0, t0.2))) hr hX ?_ none none none
  clear hr hX
  intro s t hb hK0
  obtain ⟨l2_1, l3_2, D6⟩ := s
  intro o3 o4 o5
  show EvF mtab d k_X0_listArcs 4 [some (.inr (.inr 131)), some (.inl p1), some (.inl l2_1), some (.inl l3_2), dv o3, dv o4, dv o5] [] (SH L0, D6) (some (.inl t0.1), (SH L0, t0.2))
  unfold b_X0_listArcs_4 at hb
  obtain ⟨x7, hx, hb⟩ := bnd hb
  refine ev_bind hx 6 (pc' := 14) (L' := fun x7 => [some (.inr (.inr 131)), some (.inl p1), some (.inl l2_1), some (.inl l3_2), dv o3, dv o4, dv o5]) (S' := fun x7 => [.inl x7, .inl l3_2]) (σ' := fun x7 => (SH L0, D6)) (fun _ _ => rfl) ?_
  rcases ite_or hb with ⟨hc, hb⟩ | ⟨hc, hb⟩
  · refine ev_ift hc 1 (pc' := 17) (L' := [some (.inr (.inr 131)), some (.inl p1), some (.inl l2_1), some (.inl l3_2), dv o3, dv o4, dv o5]) (S' := []) (σ' := (SH L0, D6)) (fun _ _ => rfl) ?_
    obtain ⟨x8, hx, hb⟩ := bnd hb
    refine ev_call (e_X7_member_4 L0 d (by omega) hx) 5 (pc' := 26) (L' := [some (.inr (.inr 131)), some (.inl p1), some (.inl l2_1), some (.inl l3_2), dv o3, dv o4, dv o5]) (S' := []) (fun _ _ => rfl) ?_
    obtain ⟨r, hr, hb⟩ := bnd hb
    have hX : (fun (r : (Int × DT)) => ∀ (o21 : Option (Sum Int Nat)) (o22 : Option (Sum Int Nat)), EvF mtab d k_X0_listArcs 108 [some (.inr (.inr 131)), some (.inl p1), some (.inl r.1), some (.inl l3_2), some (.inl x8), dv o21, dv o22] [] (SH L0, r.2) (some (.inl t0.1), (SH L0, t0.2))) r := by
      obtain ⟨l2_20, D23⟩ := r
      intro o21 o22
      show EvF mtab d k_X0_listArcs 108 [some (.inr (.inr 131)), some (.inl p1), some (.inl l2_20), some (.inl l3_2), some (.inl x8), dv o21, dv o22] [] (SH L0, D23) (some (.inl t0.1), (SH L0, t0.2))
      cases hb
      exact ev_go 2 (pc' := 4) (L' := [some (.inr (.inr 131)), some (.inl p1), some (.inl l2_20), some (.inl (w32 (l3_2 + 1))), some (.inl x8), dv o21, dv o22]) (S' := []) (σ' := (SH L0, D23)) (fun _ _ => rfl) (hK0 (some (.inl x8)) o21 o22)
    clear hb
    refine ev_go 3 (pc' := 31) (L' := [some (.inr (.inr 131)), some (.inl p1), some (.inl l2_1), some (.inl l3_2), some (.inl x8), some (.inl 0), dv o5]) (S' := []) (σ' := (SH L0, D6)) (fun _ _ => rfl) ?_
    refine loop_ind (P := fun s => ∀ (o11 : Option (Sum Int Nat)), EvF mtab d k_X0_listArcs 31 [some (.inr (.inr 131)), some (.inl p1), some (.inl s.1), some (.inl l3_2), some (.inl x8), some (.inl s.2.1), dv o11] [] (SH L0, s.2.2) (some (.inl t0.1), (SH L0, t0.2))) (X := fun r => ∀ (o21 : Option (Sum Int Nat)) (o22 : Option (Sum Int Nat)), EvF mtab d k_X0_listArcs 108 [some (.inr (.inr 131)), some (.inl p1), some (.inl r.1), some (.inl l3_2), some (.inl x8), dv o21, dv o22] [] (SH L0, r.2) (some (.inl t0.1), (SH L0, t0.2))) hr hX ?_ o5
    clear hr hX
    intro s t hb hK1
    obtain ⟨l2_9, l5_10, D12⟩ := s
    intro o11
    show EvF mtab d k_X0_listArcs 31 [some (.inr (.inr 131)), some (.inl p1), some (.inl l2_9), some (.inl l3_2), some (.inl x8), some (.inl l5_10), dv o11] [] (SH L0, D12) (some (.inl t0.1), (SH L0, t0.2))
    unfold b_X0_listArcs_31 at hb
    obtain ⟨x13, hx, hb⟩ := bnd hb
    refine ev_call (e_X7_arcsOf L0 d (by omega) hx) 5 (pc' := 42) (L' := [some (.inr (.inr 131)), some (.inl p1), some (.inl l2_9), some (.inl l3_2), some (.inl x8), some (.inl l5_10), dv o11]) (S' := [.inl l5_10]) (fun _ _ => rfl) ?_
    rcases ite_or hb with ⟨hc, hb⟩ | ⟨hc, hb⟩
    · refine ev_ift hc 1 (pc' := 45) (L' := [some (.inr (.inr 131)), some (.inl p1), some (.inl l2_9), some (.inl l3_2), some (.inl x8), some (.inl l5_10), dv o11]) (S' := []) (σ' := (SH L0, D12)) (fun _ _ => rfl) ?_
      rcases ite_or hb with ⟨hc, hb⟩ | ⟨hc, hb⟩
      · refine ev_ift hc 3 (pc' := 51) (L' := [some (.inr (.inr 131)), some (.inl p1), some (.inl l2_9), some (.inl l3_2), some (.inl x8), some (.inl l5_10), dv o11]) (S' := []) (σ' := (SH L0, D12)) (fun _ _ => rfl) ?_
        obtain ⟨x14, hx, hb⟩ := bnd hb
        refine ev_bind hx 5 (pc' := 61) (L' := fun x14 => [some (.inr (.inr 131)), some (.inl p1), some (.inl l2_9), some (.inl l3_2), some (.inl x8), some (.inl l5_10), dv o11]) (S' := fun x14 => [.inl x14]) (σ' := fun x14 => (SH L0, D12)) (fun _ _ => rfl) ?_
        obtain ⟨x15, hx, hb⟩ := bnd hb
        refine ev_call (e_X7_isInside_4 L0 d (by omega) hx) 7 (pc' := 75) (L' := [some (.inr (.inr 131)), some (.inl p1), some (.inl l2_9), some (.inl l3_2), some (.inl x8), some (.inl l5_10), some (.inl (w32 (x14 + l5_10)))]) (S' := []) (fun _ _ => rfl) ?_
        obtain ⟨⟨l2_18, D19⟩, hv, hb⟩ := bnd hb
        have hJ : EvF mtab d k_X0_listArcs 102 [some (.inr (.inr 131)), some (.inl p1), some (.inl l2_18), some (.inl l3_2), some (.inl x8), some (.inl l5_10), some (.inl (w32 (x14 + l5_10)))] [] (SH L0, D19) (some (.inl t0.1), (SH L0, t0.2)) := by
          cases hb
          exact ev_go 2 (pc' := 31) (L' := [some (.inr (.inr 131)), some (.inl p1), some (.inl l2_18), some (.inl l3_2), some (.inl x8), some (.inl (w32 (l5_10 + 1))), some (.inl (w32 (x14 + l5_10)))]) (S' := []) (σ' := (SH L0, D19)) (fun _ _ => rfl) (hK1 (some (.inl (w32 (x14 + l5_10)))))
        clear hb
        rcases ite_or hv with ⟨hc, hv⟩ | ⟨hc, hv⟩
        · refine ev_ift hc 1 (pc' := 102) (L' := [some (.inr (.inr 131)), some (.inl p1), some (.inl l2_9), some (.inl l3_2), some (.inl x8), some (.inl l5_10), some (.inl (w32 (x14 + l5_10)))]) (S' := []) (σ' := (SH L0, D12)) (fun _ _ => rfl) ?_
          have he0 := Option.some.inj hv
          obtain ⟨ha0, he1⟩ := Prod.mk.inj he0
          clear he0
          subst ha0
          subst he1
          exact hJ
        · refine ev_iff hc 1 (pc' := 78) (L' := [some (.inr (.inr 131)), some (.inl p1), some (.inl l2_9), some (.inl l3_2), some (.inl x8), some (.inl l5_10), some (.inl (w32 (x14 + l5_10)))]) (S' := []) (σ' := (SH L0, D12)) (fun _ _ => rfl) ?_
          obtain ⟨x16, hx, hv⟩ := bnd hv
          refine ev_bind hx 5 (pc' := 88) (L' := fun x16 => [some (.inr (.inr 131)), some (.inl p1), some (.inl l2_9), some (.inl l3_2), some (.inl x8), some (.inl l5_10), some (.inl (w32 (x14 + l5_10)))]) (S' := fun x16 => [.inl x16]) (σ' := fun x16 => (SH L0, D12)) (fun _ _ => rfl) ?_
          rcases ite_or hv with ⟨hc, hv⟩ | ⟨hc, hv⟩
          · refine ev_ift hc 1 (pc' := 91) (L' := [some (.inr (.inr 131)), some (.inl p1), some (.inl l2_9), some (.inl l3_2), some (.inl x8), some (.inl l5_10), some (.inl (w32 (x14 + l5_10)))]) (S' := []) (σ' := (SH L0, D12)) (fun _ _ => rfl) ?_
            obtain ⟨D17, hx, hv⟩ := bnd hv
            refine ev_bind hx 5 (pc' := 99) (L' := fun D17 => [some (.inr (.inr 131)), some (.inl p1), some (.inl l2_9), some (.inl l3_2), some (.inl x8), some (.inl l5_10), some (.inl (w32 (x14 + l5_10)))]) (S' := fun D17 => []) (σ' := fun D17 => (SH L0, D17)) (fun _ _ => rfl) ?_
            have he0 := Option.some.inj hv
            obtain ⟨ha0, he1⟩ := Prod.mk.inj he0
            clear he0
            subst ha0
            subst he1
            exact ev_go 1 (pc' := 102) (L' := [some (.inr (.inr 131)), some (.inl p1), some (.inl (w32 (l2_9 + 1))), some (.inl l3_2), some (.inl x8), some (.inl l5_10), some (.inl (w32 (x14 + l5_10)))]) (S' := []) (σ' := (SH L0, D17)) (fun _ _ => rfl) hJ
          · refine ev_iff hc 1 (pc' := 102) (L' := [some (.inr (.inr 131)), some (.inl p1), some (.inl l2_9), some (.inl l3_2), some (.inl x8), some (.inl l5_10), some (.inl (w32 (x14 + l5_10)))]) (S' := []) (σ' := (SH L0, D12)) (fun _ _ => rfl) ?_
            have he0 := Option.some.inj hv
            obtain ⟨ha0, he1⟩ := Prod.mk.inj he0
            clear he0
            subst ha0
            subst he1
            exact hJ
      · refine ev_iff hc 3 (pc' := 108) (L' := [some (.inr (.inr 131)), some (.inl p1), some (.inl l2_9), some (.inl l3_2), some (.inl x8), some (.inl l5_10), dv o11]) (S' := []) (σ' := (SH L0, D12)) (fun _ _ => rfl) ?_
        cases hb
        exact hK1 (some (.inl l5_10)) o11
    · refine ev_iff hc 1 (pc' := 108) (L' := [some (.inr (.inr 131)), some (.inl p1), some (.inl l2_9), some (.inl l3_2), some (.inl x8), some (.inl l5_10), dv o11]) (S' := []) (σ' := (SH L0, D12)) (fun _ _ => rfl) ?_
      cases hb
      exact hK1 (some (.inl l5_10)) o11
  · refine ev_iff hc 1 (pc' := 114) (L' := [some (.inr (.inr 131)), some (.inl p1), some (.inl l2_1), some (.inl l3_2), dv o3, dv o4, dv o5]) (S' := []) (σ' := (SH L0, D6)) (fun _ _ => rfl) ?_
    cases hb
    exact hK0 (some (.inl l3_2)) o3 o4 o5
set_option maxRecDepth 100000 in
set_option maxHeartbeats 4000000 in
theorem e_X7_entryOf_4 (L0 d : Nat) (hd : 2 ≤ d) {p1 : Int} {D : DT} {t0 : Int} (h : m_X7_entryOf 4 p1 D = some t0) : Ret mtab d 82 [.inr (.inr 4), .inl p1] (SH L0, D) (some (.inl t0), (SH L0, D)) := by
  obtain ⟨d, rfl⟩ : ∃ e, d = e + 1 := ⟨d - 1, by omega⟩
  refine Ret.of (code := k_X7_entryOf) (ml := 2) rfl ?_
  show EvF mtab d k_X7_entryOf 0 [some (.inr (.inr 4)), some (.inl p1)] [] (SH L0, D) (some (.inl t0), (SH L0, D))
  unfold m_X7_entryOf at h
  obtain ⟨x1, hx, h⟩ := bnd h
  refine ev_call (e_X7_member_4 L0 d (by omega) hx) 4 (pc' := 6) (L' := [some (.inr (.inr 4)), some (.inl p1)]) (S' := []) (fun _ _ => rfl) ?_
  cases h
  exact ev_ret 1 (fun _ _ => rfl)
set_option maxRecDepth 100000 in
set_option maxHeartbeats 4000000 in
theorem e_X7_entryOf_19 (L0 d : Nat) (hd : 2 ≤ d) {p1 : Int} {D : DT} {t0 : Int} (h : m_X7_entryOf 19 p1 D = some t0) : Ret mtab d 82 [.inr (.inr 19), .inl p1] (SH L0, D) (some (.inl t0), (SH L0, D)) := by
  obtain ⟨d, rfl⟩ : ∃ e, d = e + 1 := ⟨d - 1, by omega⟩
  refine Ret.of (code := k_X7_entryOf) (ml := 2) rfl ?_
  show EvF mtab d k_X7_entryOf 0 [some (.inr (.inr 19)), some (.inl p1)] [] (SH L0, D) (some (.inl t0), (SH L0, D))
  unfold m_X7_entryOf at h
  obtain ⟨x1, hx, h⟩ := bnd h
  refine ev_call (e_X7_member_19 L0 d (by omega) hx) 4 (pc' := 6) (L' := [some (.inr (.inr 19)), some (.inl p1)]) (S' := []) (fun _ _ => rfl) ?_
  cases h
  exact ev_ret 1 (fun _ _ => rfl)
set_option maxRecDepth 100000 in
set_option maxHeartbeats 4000000 in
theorem e_X7_isEntry (L0 d : Nat) (hd : 3 ≤ d) {p1 : Int} {D : DT} {t0 : Int} (h : m_X7_isEntry p1 D = some t0) : Ret mtab d 83 [.inr (.inr 4), .inl p1] (SH L0, D) (some (.inl t0), (SH L0, D)) := by
  obtain ⟨d, rfl⟩ : ∃ e, d = e + 1 := ⟨d - 1, by omega⟩
  refine Ret.of (code := k_X7_isEntry) (ml := 2) rfl ?_
  show EvF mtab d k_X7_isEntry 0 [some (.inr (.inr 4)), some (.inl p1)] [] (SH L0, D) (some (.inl t0), (SH L0, D))
  unfold m_X7_isEntry at h
  obtain ⟨x1, hx, h⟩ := bnd h
  refine ev_bind hx 5 (pc' := 7) (L' := fun x1 => [some (.inr (.inr 4)), some (.inl p1)]) (S' := fun x1 => [.inl x1, .inr (.inr 4)]) (σ' := fun x1 => (SH L0, D)) (fun _ _ => rfl) ?_
  obtain ⟨x2, hx, h⟩ := bnd h
  refine ev_call (e_X7_entryOf_4 L0 d (by omega) hx) 1 (pc' := 10) (L' := [some (.inr (.inr 4)), some (.inl p1)]) (S' := []) (fun _ _ => rfl) ?_
  rcases ite_or h with ⟨hc, h⟩ | ⟨hc, h⟩
  · refine ev_ift hc 2 (pc' := 14) (L' := [some (.inr (.inr 4)), some (.inl p1)]) (S' := []) (σ' := (SH L0, D)) (fun _ _ => rfl) ?_
    cases h
    exact ev_ret 3 (fun _ _ => rfl)
  · refine ev_iff hc 2 (pc' := 18) (L' := [some (.inr (.inr 4)), some (.inl p1)]) (S' := []) (σ' := (SH L0, D)) (fun _ _ => rfl) ?_
    cases h
    exact ev_ret 2 (fun _ _ => rfl)
set_option maxRecDepth 100000 in
set_option maxHeartbeats 4000000 in
theorem e_X0_link (L0 d : Nat) (hd : 4 ≤ d) {p1 : Int} {D : DT} {t0 : DT} (h : m_X0_link p1 D = some t0) : Ret mtab d 4 [.inr (.inr 131), .inl p1] (SH L0, D) (none, (SH L0, t0)) := by
  obtain ⟨d, rfl⟩ : ∃ e, d = e + 1 := ⟨d - 1, by omega⟩
  refine Ret.of (code := k_X0_link) (ml := 8) rfl ?_
  show EvF mtab d k_X0_link 0 [some (.inr (.inr 131)), some (.inl p1), none, none, none, none, none, none] [] (SH L0, D) (none, (SH L0, t0))
  unfold m_X0_link at h
  obtain ⟨x1, hx, h⟩ := bnd h
  refine ev_bind hx 5 (pc' := 9) (L' := fun x1 => [some (.inr (.inr 131)), some (.inl p1), none, none, none, none, none, none]) (S' := fun x1 => [.inl x1]) (σ' := fun x1 => (SH L0, D)) (fun _ _ => rfl) ?_
  obtain ⟨x2, hx, h⟩ := bnd h
  refine ev_bind hx 6 (pc' := 19) (L' := fun x2 => [some (.inr (.inr 131)), some (.inl p1), some (.inl x1), none, none, none, none, none]) (S' := fun x2 => [.inl x2]) (σ' := fun x2 => (SH L0, D)) (fun _ _ => rfl) ?_
  obtain ⟨x3, hx, h⟩ := bnd h
  refine ev_bind hx 5 (pc' := 26) (L' := fun x3 => [some (.inr (.inr 131)), some (.inl p1), some (.inl x1), some (.inl x2), none, none, none, none]) (S' := fun x3 => [.inl x3]) (σ' := fun x3 => (SH L0, D)) (fun _ _ => rfl) ?_
  obtain ⟨t4, hv, h⟩ := bnd h
  have hJ : EvF mtab d k_X0_link 35 [some (.inr (.inr 131)), some (.inl p1), some (.inl x1), some (.inl x2), none, none, none, none] [.inl t4] (SH L0, D) (none, (SH L0, t0)) := by
    obtain ⟨x5, hx, h⟩ := bnd h
    refine ev_bind hx 5 (pc' := 43) (L' := fun x5 => [some (.inr (.inr 131)), some (.inl p1), some (.inl x1), some (.inl x2), some (.inl t4), none, none, none]) (S' := fun x5 => [.inl x5]) (σ' := fun x5 => (SH L0, D)) (fun _ _ => rfl) ?_
    obtain ⟨t7, hv, h⟩ := bnd h
    have hJ : EvF mtab d k_X0_link 62 [some (.inr (.inr 131)), some (.inl p1), some (.inl x1), some (.inl x2), some (.inl t4), none, none, none] [.inl t7] (SH L0, D) (none, (SH L0, t0)) := by
      rcases ite_or h with ⟨hc, h⟩ | ⟨hc, h⟩
      · refine ev_ift hc 3 (pc' := 85) (L' := [some (.inr (.inr 131)), some (.inl p1), some (.inl x1), some (.inl x2), some (.inl t4), some (.inl t7), none, none]) (S' := []) (σ' := (SH L0, D)) (fun _ _ => rfl) ?_
        cases h
        exact ev_ret 1 (fun _ _ => rfl)
      · refine ev_iff hc 3 (pc' := 69) (L' := [some (.inr (.inr 131)), some (.inl p1), some (.inl x1), some (.inl x2), some (.inl t4), some (.inl t7), none, none]) (S' := []) (σ' := (SH L0, D)) (fun _ _ => rfl) ?_
        rcases ite_or h with ⟨hc, h⟩ | ⟨hc, h⟩
        · refine ev_ift hc 2 (pc' := 85) (L' := [some (.inr (.inr 131)), some (.inl p1), some (.inl x1), some (.inl x2), some (.inl t4), some (.inl t7), none, none]) (S' := []) (σ' := (SH L0, D)) (fun _ _ => rfl) ?_
          cases h
          exact ev_ret 1 (fun _ _ => rfl)
        · refine ev_iff hc 2 (pc' := 74) (L' := [some (.inr (.inr 131)), some (.inl p1), some (.inl x1), some (.inl x2), some (.inl t4), some (.inl t7), none, none]) (S' := []) (σ' := (SH L0, D)) (fun _ _ => rfl) ?_
          obtain ⟨x8, hx, h⟩ := bnd h
          refine ev_call (e_X7_isEntry L0 d (by omega) hx) 4 (pc' := 82) (L' := [some (.inr (.inr 131)), some (.inl p1), some (.inl x1), some (.inl x2), some (.inl t4), some (.inl t7), none, none]) (S' := []) (fun _ _ => rfl) ?_
          rcases ite_or h with ⟨hc, h⟩ | ⟨hc, h⟩
          · refine ev_ift hc 1 (pc' := 86) (L' := [some (.inr (.inr 131)), some (.inl p1), some (.inl x1), some (.inl x2), some (.inl t4), some (.inl t7), none, none]) (S' := []) (σ' := (SH L0, D)) (fun _ _ => rfl) ?_
            obtain ⟨D9, hx, h⟩ := bnd h
            refine ev_bind hx 5 (pc' := 93) (L' := fun D9 => [some (.inr (.inr 131)), some (.inl p1), some (.inl x1), some (.inl x2), some (.inl t4), some (.inl t7), none, none]) (S' := fun D9 => []) (σ' := fun D9 => (SH L0, D9)) (fun _ _ => rfl) ?_
            obtain ⟨r, hr, h⟩ := bnd h
            have hX : (fun (r : DT) => ∀ (o16 : Option (Sum Int Nat)) (o17 : Option (Sum Int Nat)), EvF mtab d k_X0_link 140 [some (.inr (.inr 131)), some (.inl p1), some (.inl x1), some (.inl x2), some (.inl t4), some (.inl t7), dv o16, dv o17] [] (SH L0, r) (none, (SH L0, t0))) r := by
              obtain ⟨D18, hre⟩ : ∃ q, q = r := ⟨r, rfl⟩
              subst hre
              intro o16 o17
              show EvF mtab d k_X0_link 140 [some (.inr (.inr 131)), some (.inl p1), some (.inl x1), some (.inl x2), some (.inl t4), some (.inl t7), dv o16, dv o17] [] (SH L0, D18) (none, (SH L0, t0))
              cases h
              exact ev_ret 1 (fun _ _ => rfl)
            clear h
            refine ev_go 4 (pc' := 99) (L' := [some (.inr (.inr 131)), some (.inl p1), some (.inl x1), some (.inl x2), some (.inl t4), some (.inl t7), some (.inl x2), some (.inl 0)]) (S' := []) (σ' := (SH L0, D9)) (fun _ _ => rfl) ?_
            refine loop_ind (P := fun s => EvF mtab d k_X0_link 99 [some (.inr (.inr 131)), some (.inl p1), some (.inl x1), some (.inl x2), some (.inl t4), some (.inl t7), some (.inl s.1), some (.inl s.2.1)] [] (SH L0, s.2.2) (none, (SH L0, t0))) (X := fun r => ∀ (o16 : Option (Sum Int Nat)) (o17 : Option (Sum Int Nat)), EvF mtab d k_X0_link 140 [some (.inr (.inr 131)), some (.inl p1), some (.inl x1), some (.inl x2), some (.inl t4), some (.inl t7), dv o16, dv o17] [] (SH L0, r) (none, (SH L0, t0))) hr hX ?_
            clear hr hX
            intro s t hb hK0
            obtain ⟨l6_10, l7_11, D12⟩ := s
            show EvF mtab d k_X0_link 99 [some (.inr (.inr 131)), some (.inl p1), some (.inl x1), some (.inl x2), some (.inl t4), some (.inl t7), some (.inl l6_10), some (.inl l7_11)] [] (SH L0, D12) (none, (SH L0, t0))
            unfold b_X0_link_99 at hb
            rcases ite_or hb with ⟨hc, hb⟩ | ⟨hc, hb⟩
            · refine ev_ift hc 3 (pc' := 106) (L' := [some (.inr (.inr 131)), some (.inl p1), some (.inl x1), some (.inl x2), some (.inl t4), some (.inl t7), some (.inl l6_10), some (.inl l7_11)]) (S' := []) (σ' := (SH L0, D12)) (fun _ _ => rfl) ?_
              rcases ite_or hb with ⟨hc, hb⟩ | ⟨hc, hb⟩
              · refine ev_ift hc 3 (pc' := 140) (L' := [some (.inr (.inr 131)), some (.inl p1), some (.inl x1), some (.inl x2), some (.inl t4), some (.inl t7), some (.inl l6_10), some (.inl l7_11)]) (S' := []) (σ' := (SH L0, D12)) (fun _ _ => rfl) ?_
                cases hb
                exact hK0 (some (.inl l6_10)) (some (.inl l7_11))
              · refine ev_iff hc 3 (pc' := 112) (L' := [some (.inr (.inr 131)), some (.inl p1), some (.inl x1), some (.inl x2), some (.inl t4), some (.inl t7), some (.inl l6_10), some (.inl l7_11)]) (S' := []) (σ' := (SH L0, D12)) (fun _ _ => rfl) ?_
                obtain ⟨x13, hx, hb⟩ := bnd hb
                refine ev_bind hx 7 (pc' := 124) (L' := fun x13 => [some (.inr (.inr 131)), some (.inl p1), some (.inl x1), some (.inl x2), some (.inl t4), some (.inl t7), some (.inl l6_10), some (.inl l7_11)]) (S' := fun x13 => [.inl x13, .inl l6_10, .inr (.inr 137)]) (σ' := fun x13 => (SH L0, D12)) (fun _ _ => rfl) ?_
                obtain ⟨D14, hx, hb⟩ := bnd hb
                refine ev_bind hx 1 (pc' := 125) (L' := fun D14 => [some (.inr (.inr 131)), some (.inl p1), some (.inl x1), some (.inl x2), some (.inl t4), some (.inl t7), some (.inl l6_10), some (.inl l7_11)]) (S' := fun D14 => []) (σ' := fun D14 => (SH L0, D14)) (fun _ _ => rfl) ?_
                obtain ⟨x15, hx, hb⟩ := bnd hb
                refine ev_bind hx 4 (pc' := 132) (L' := fun x15 => [some (.inr (.inr 131)), some (.inl p1), some (.inl x1), some (.inl x2), some (.inl t4), some (.inl t7), some (.inl l6_10), some (.inl l7_11)]) (S' := fun x15 => [.inl x15]) (σ' := fun x15 => (SH L0, D14)) (fun _ _ => rfl) ?_
                cases hb
                exact ev_go 3 (pc' := 99) (L' := [some (.inr (.inr 131)), some (.inl p1), some (.inl x1), some (.inl x2), some (.inl t4), some (.inl t7), some (.inl x15), some (.inl (w32 (l7_11 + 1)))]) (S' := []) (σ' := (SH L0, D14)) (fun _ _ => rfl) hK0
            · refine ev_iff hc 3 (pc' := 140) (L' := [some (.inr (.inr 131)), some (.inl p1), some (.inl x1), some (.inl x2), some (.inl t4), some (.inl t7), some (.inl l6_10), some (.inl l7_11)]) (S' := []) (σ' := (SH L0, D12)) (fun _ _ => rfl) ?_
              cases hb
              exact hK0 (some (.inl l6_10)) (some (.inl l7_11))
          · refine ev_iff hc 1 (pc' := 85) (L' := [some (.inr (.inr 131)), some (.inl p1), some (.inl x1), some (.inl x2), some (.inl t4), some (.inl t7), none, none]) (S' := []) (σ' := (SH L0, D)) (fun _ _ => rfl) ?_
            cases h
            exact ev_ret 1 (fun _ _ => rfl)
    clear h
    rcases ite_or hv with ⟨hc, hv⟩ | ⟨hc, hv⟩
    · refine ev_ift hc 2 (pc' := 47) (L' := [some (.inr (.inr 131)), some (.inl p1), some (.inl x1), some (.inl x2), some (.inl t4), none, none, none]) (S' := []) (σ' := (SH L0, D)) (fun _ _ => rfl) ?_
      obtain ⟨x6, hx, hv⟩ := bnd hv
      refine ev_bind hx 4 (pc' := 53) (L' := fun x6 => [some (.inr (.inr 131)), some (.inl p1), some (.inl x1), some (.inl x2), some (.inl t4), none, none, none]) (S' := fun x6 => [.inl x6]) (σ' := fun x6 => (SH L0, D)) (fun _ _ => rfl) ?_
      rcases ite_or hv with ⟨hc, hv⟩ | ⟨hc, hv⟩
      · refine ev_ift hc 2 (pc' := 61) (L' := [some (.inr (.inr 131)), some (.inl p1), some (.inl x1), some (.inl x2), some (.inl t4), none, none, none]) (S' := []) (σ' := (SH L0, D)) (fun _ _ => rfl) ?_
        have he0 := Option.some.inj hv
        subst he0
        exact ev_go 1 (pc' := 62) (L' := [some (.inr (.inr 131)), some (.inl p1), some (.inl x1), some (.inl x2), some (.inl t4), none, none, none]) (S' := [.inl 0]) (σ' := (SH L0, D)) (fun _ _ => rfl) hJ
      · refine ev_iff hc 2 (pc' := 57) (L' := [some (.inr (.inr 131)), some (.inl p1), some (.inl x1), some (.inl x2), some (.inl t4), none, none, none]) (S' := []) (σ' := (SH L0, D)) (fun _ _ => rfl) ?_
        have he0 := Option.some.inj hv
        subst he0
        exact ev_go 2 (pc' := 62) (L' := [some (.inr (.inr 131)), some (.inl p1), some (.inl x1), some (.inl x2), some (.inl t4), none, none, none]) (S' := [.inl 1]) (σ' := (SH L0, D)) (fun _ _ => rfl) hJ
    · refine ev_iff hc 2 (pc' := 61) (L' := [some (.inr (.inr 131)), some (.inl p1), some (.inl x1), some (.inl x2), some (.inl t4), none, none, none]) (S' := []) (σ' := (SH L0, D)) (fun _ _ => rfl) ?_
      have he0 := Option.some.inj hv
      subst he0
      exact ev_go 1 (pc' := 62) (L' := [some (.inr (.inr 131)), some (.inl p1), some (.inl x1), some (.inl x2), some (.inl t4), none, none, none]) (S' := [.inl 0]) (σ' := (SH L0, D)) (fun _ _ => rfl) hJ
  clear h
  rcases ite_or hv with ⟨hc, hv⟩ | ⟨hc, hv⟩
  · refine ev_ift hc 2 (pc' := 30) (L' := [some (.inr (.inr 131)), some (.inl p1), some (.inl x1), some (.inl x2), none, none, none, none]) (S' := []) (σ' := (SH L0, D)) (fun _ _ => rfl) ?_
    have he0 := Option.some.inj hv
    subst he0
    exact ev_go 2 (pc' := 35) (L' := [some (.inr (.inr 131)), some (.inl p1), some (.inl x1), some (.inl x2), none, none, none, none]) (S' := [.inl 1]) (σ' := (SH L0, D)) (fun _ _ => rfl) hJ
  · refine ev_iff hc 2 (pc' := 34) (L' := [some (.inr (.inr 131)), some (.inl p1), some (.inl x1), some (.inl x2), none, none, none, none]) (S' := []) (σ' := (SH L0, D)) (fun _ _ => rfl) ?_
    have he0 := Option.some.inj hv
    subst he0
    exact ev_go 1 (pc' := 35) (L' := [some (.inr (.inr 131)), some (.inl p1), some (.inl x1), some (.inl x2), none, none, none, none]) (S' := [.inl 0]) (σ' := (SH L0, D)) (fun _ _ => rfl) hJ
set_option maxRecDepth 100000 in
set_option maxHeartbeats 4000000 in
theorem e_X0_putDown (L0 d : Nat) (hd : 1 ≤ d) {p1 p2 p3 : Int} {D : DT} {t0 : (Int × DT)} (h : m_X0_putDown p1 p2 p3 D = some t0) : Ret mtab d 6 [.inr (.inr 131), .inl p1, .inl p2, .inl p3] (SH L0, D) (some (.inl t0.1), (SH L0, t0.2)) := by
  obtain ⟨d, rfl⟩ : ∃ e, d = e + 1 := ⟨d - 1, by omega⟩
  refine Ret.of (code := k_X0_putDown) (ml := 7) rfl ?_
  show EvF mtab d k_X0_putDown 0 [some (.inr (.inr 131)), some (.inl p1), some (.inl p2), some (.inl p3), none, none, none] [] (SH L0, D) (some (.inl t0.1), (SH L0, t0.2))
  unfold m_X0_putDown at h
  obtain ⟨r, hr, h⟩ := bnd h
  have hX : (fun (r : (Int × DT)) => ∀ (o14 : Option (Sum Int Nat)) (o15 : Option (Sum Int Nat)), EvF mtab d k_X0_putDown 94 [some (.inr (.inr 131)), some (.inl p1), some (.inl p2), some (.inl p3), some (.inl r.1), dv o14, dv o15] [] (SH L0, r.2) (some (.inl t0.1), (SH L0, t0.2))) r := by
    obtain ⟨l4_13, D16⟩ := r
    intro o14 o15
    show EvF mtab d k_X0_putDown 94 [some (.inr (.inr 131)), some (.inl p1), some (.inl p2), some (.inl p3), some (.inl l4_13), dv o14, dv o15] [] (SH L0, D16) (some (.inl t0.1), (SH L0, t0.2))
    obtain ⟨x17, hx, h⟩ := bnd h
    refine ev_bind hx 5 (pc' := 101) (L' := fun x17 => [some (.inr (.inr 131)), some (.inl p1), some (.inl p2), some (.inl p3), some (.inl l4_13), dv o14, dv o15]) (S' := fun x17 => [.inl x17, .inl p1, .inr (.inr 135)]) (σ' := fun x17 => (SH L0, D16)) (fun _ _ => rfl) ?_
    obtain ⟨D18, hx, h⟩ := bnd h
    refine ev_bind hx 3 (pc' := 104) (L' := fun D18 => [some (.inr (.inr 131)), some (.inl p1), some (.inl p2), some (.inl p3), some (.inl l4_13), dv o14, dv o15]) (S' := fun D18 => []) (σ' := fun D18 => (SH L0, D18)) (fun _ _ => rfl) ?_
    cases h
    exact ev_ret 2 (fun _ _ => rfl)
  clear h
  refine ev_go 6 (pc' := 9) (L' := [some (.inr (.inr 131)), some (.inl p1), some (.inl p2), some (.inl p3), some (.inl p3), some (.inl p2), some (.inl 0)]) (S' := []) (σ' := (SH L0, D)) (fun _ _ => rfl) ?_
  refine loop_ind (P := fun s => EvF mtab d k_X0_putDown 9 [some (.inr (.inr 131)), some (.inl p1), some (.inl p2), some (.inl p3), some (.inl s.1), some (.inl s.2.1), some (.inl s.2.2.1)] [] (SH L0, s.2.2.2) (some (.inl t0.1), (SH L0, t0.2))) (X := fun r => ∀ (o14 : Option (Sum Int Nat)) (o15 : Option (Sum Int Nat)), EvF mtab d k_X0_putDown 94 [some (.inr (.inr 131)), some (.inl p1), some (.inl p2), some (.inl p3), some (.inl r.1), dv o14, dv o15] [] (SH L0, r.2) (some (.inl t0.1), (SH L0, t0.2))) hr hX ?_
  clear hr hX
  intro s t hb hK0
  obtain ⟨l4_1, l5_2, l6_3, D4⟩ := s
  show EvF mtab d k_X0_putDown 9 [some (.inr (.inr 131)), some (.inl p1), some (.inl p2), some (.inl p3), some (.inl l4_1), some (.inl l5_2), some (.inl l6_3)] [] (SH L0, D4) (some (.inl t0.1), (SH L0, t0.2))
  unfold b_X0_putDown_9 at hb
  rcases ite_or hb with ⟨hc, hb⟩ | ⟨hc, hb⟩
  · refine ev_ift hc 3 (pc' := 16) (L' := [some (.inr (.inr 131)), some (.inl p1), some (.inl p2), some (.inl p3), some (.inl l4_1), some (.inl l5_2), some (.inl l6_3)]) (S' := []) (σ' := (SH L0, D4)) (fun _ _ => rfl) ?_
    rcases ite_or hb with ⟨hc, hb⟩ | ⟨hc, hb⟩
    · refine ev_ift hc 3 (pc' := 94) (L' := [some (.inr (.inr 131)), some (.inl p1), some (.inl p2), some (.inl p3), some (.inl l4_1), some (.inl l5_2), some (.inl l6_3)]) (S' := []) (σ' := (SH L0, D4)) (fun _ _ => rfl) ?_
      cases hb
      exact hK0 (some (.inl l5_2)) (some (.inl l6_3))
    · refine ev_iff hc 3 (pc' := 22) (L' := [some (.inr (.inr 131)), some (.inl p1), some (.inl p2), some (.inl p3), some (.inl l4_1), some (.inl l5_2), some (.inl l6_3)]) (S' := []) (σ' := (SH L0, D4)) (fun _ _ => rfl) ?_
      obtain ⟨x5, hx, hb⟩ := bnd hb
      refine ev_bind hx 6 (pc' := 33) (L' := fun x5 => [some (.inr (.inr 131)), some (.inl p1), some (.inl p2), some (.inl p3), some (.inl l4_1), some (.inl l5_2), some (.inl l6_3)]) (S' := fun x5 => [.inl x5, .inl l4_1]) (σ' := fun x5 => (SH L0, D4)) (fun _ _ => rfl) ?_
      rcases ite_or hb with ⟨hc, hb⟩ | ⟨hc, hb⟩
      · refine ev_ift hc 1 (pc' := 36) (L' := [some (.inr (.inr 131)), some (.inl p1), some (.inl p2), some (.inl p3), some (.inl l4_1), some (.inl l5_2), some (.inl l6_3)]) (S' := []) (σ' := (SH L0, D4)) (fun _ _ => rfl) ?_
        obtain ⟨x6, hx, hb⟩ := bnd hb
        refine ev_bind hx 7 (pc' := 49) (L' := fun x6 => [some (.inr (.inr 131)), some (.inl p1), some (.inl p2), some (.inl p3), some (.inl l4_1), some (.inl l5_2), some (.inl l6_3)]) (S' := fun x6 => [.inl x6, .inr (.inr 132)]) (σ' := fun x6 => (SH L0, D4)) (fun _ _ => rfl) ?_
        obtain ⟨D7, hx, hb⟩ := bnd hb
        refine ev_bind hx 4 (pc' := 55) (L' := fun D7 => [some (.inr (.inr 131)), some (.inl p1), some (.inl p2), some (.inl p3), some (.inl l4_1), some (.inl l5_2), some (.inl l6_3)]) (S' := fun D7 => []) (σ' := fun D7 => (SH L0, D7)) (fun _ _ => rfl) ?_
        obtain ⟨x8, hx, hb⟩ := bnd hb
        refine ev_bind hx 7 (pc' := 67) (L' := fun x8 => [some (.inr (.inr 131)), some (.inl p1), some (.inl p2), some (.inl p3), some (.inl l4_1), some (.inl l5_2), some (.inl l6_3)]) (S' := fun x8 => [.inl x8, .inl l5_2, .inr (.inr 133)]) (σ' := fun x8 => (SH L0, D7)) (fun _ _ => rfl) ?_
        obtain ⟨D9, hx, hb⟩ := bnd hb
        refine ev_bind hx 1 (pc' := 68) (L' := fun D9 => [some (.inr (.inr 131)), some (.inl p1), some (.inl p2), some (.inl p3), some (.inl l4_1), some (.inl l5_2), some (.inl l6_3)]) (S' := fun D9 => []) (σ' := fun D9 => (SH L0, D9)) (fun _ _ => rfl) ?_
        obtain ⟨x10, hx, hb⟩ := bnd hb
        obtain ⟨D11, hy, hb⟩ := bnd hb
        refine ev_bind2 (Y := fun x10 => awr D9 140 40 l5_2 x10) hx hy 5 (pc' := 76) (L' := fun x10 D11 => [some (.inr (.inr 131)), some (.inl p1), some (.inl p2), some (.inl p3), some (.inl l4_1), some (.inl l5_2), some (.inl l6_3)]) (S' := fun x10 D11 => []) (σ' := fun x10 D11 => (SH L0, D11)) (fun _ _ => rfl) ?_
        obtain ⟨x12, hx, hb⟩ := bnd hb
        refine ev_bind hx 5 (pc' := 86) (L' := fun x12 => [some (.inr (.inr 131)), some (.inl p1), some (.inl p2), some (.inl p3), some (.inl (w32 (l4_1 + 1))), some (.inl l5_2), some (.inl l6_3)]) (S' := fun x12 => [.inl x12]) (σ' := fun x12 => (SH L0, D11)) (fun _ _ => rfl) ?_
        cases hb
        exact ev_go 3 (pc' := 9) (L' := [some (.inr (.inr 131)), some (.inl p1), some (.inl p2), some (.inl p3), some (.inl (w32 (l4_1 + 1))), some (.inl x12), some (.inl (w32 (l6_3 + 1)))]) (S' := []) (σ' := (SH L0, D11)) (fun _ _ => rfl) hK0
      · refine ev_iff hc 1 (pc' := 94) (L' := [some (.inr (.inr 131)), some (.inl p1), some (.inl p2), some (.inl p3), some (.inl l4_1), some (.inl l5_2), some (.inl l6_3)]) (S' := []) (σ' := (SH L0, D4)) (fun _ _ => rfl) ?_
        cases hb
        exact hK0 (some (.inl l5_2)) (some (.inl l6_3))
  · refine ev_iff hc 3 (pc' := 94) (L' := [some (.inr (.inr 131)), some (.inl p1), some (.inl p2), some (.inl p3), some (.inl l4_1), some (.inl l5_2), some (.inl l6_3)]) (S' := []) (σ' := (SH L0, D4)) (fun _ _ => rfl) ?_
    cases hb
    exact hK0 (some (.inl l5_2)) (some (.inl l6_3))
set_option maxRecDepth 100000 in
set_option maxHeartbeats 4000000 in
theorem e_X0_bindTo (L0 d : Nat) (hd : 1 ≤ d) {p1 p2 : Int} {D : DT} {t0 : DT} (h : m_X0_bindTo p1 p2 D = some t0) : Ret mtab d 7 [.inr (.inr 131), .inl p1, .inl p2] (SH L0, D) (none, (SH L0, t0)) := by
  obtain ⟨d, rfl⟩ : ∃ e, d = e + 1 := ⟨d - 1, by omega⟩
  refine Ret.of (code := k_X0_bindTo) (ml := 6) rfl ?_
  show EvF mtab d k_X0_bindTo 0 [some (.inr (.inr 131)), some (.inl p1), some (.inl p2), none, none, none] [] (SH L0, D) (none, (SH L0, t0))
  unfold m_X0_bindTo at h
  obtain ⟨r, hr, h⟩ := bnd h
  have hX : (fun (r : DT) => ∀ (o31 : Option (Sum Int Nat)) (o32 : Option (Sum Int Nat)) (o33 : Option (Sum Int Nat)), EvF mtab d k_X0_bindTo 148 [some (.inr (.inr 131)), some (.inl p1), some (.inl p2), dv o31, dv o32, dv o33] [] (SH L0, r) (none, (SH L0, t0))) r := by
    obtain ⟨D34, hre⟩ : ∃ q, q = r := ⟨r, rfl⟩
    subst hre
    intro o31 o32 o33
    show EvF mtab d k_X0_bindTo 148 [some (.inr (.inr 131)), some (.inl p1), some (.inl p2), dv o31, dv o32, dv o33] [] (SH L0, D34) (none, (SH L0, t0))
    cases h
    exact ev_ret 1 (fun _ _ => rfl)
  clear h
  refine ev_go 2 (pc' := 2) (L' := [some (.inr (.inr 131)), some (.inl p1), some (.inl p2), some (.inl 0), none, none]) (S' := []) (σ' := (SH L0, D)) (fun _ _ => rfl) ?_
  refine loop_ind (P := fun s => ∀ (o2 : Option (Sum Int Nat)) (o3 : Option (Sum Int Nat)), EvF mtab d k_X0_bindTo 2 [some (.inr (.inr 131)), some (.inl p1), some (.inl p2), some (.inl s.1), dv o2, dv o3] [] (SH L0, s.2) (none, (SH L0, t0))) (X := fun r => ∀ (o31 : Option (Sum Int Nat)) (o32 : Option (Sum Int Nat)) (o33 : Option (Sum Int Nat)), EvF mtab d k_X0_bindTo 148 [some (.inr (.inr 131)), some (.inl p1), some (.inl p2), dv o31, dv o32, dv o33] [] (SH L0, r) (none, (SH L0, t0))) hr hX ?_ none none
  clear hr hX
  intro s t hb hK0
  obtain ⟨l3_1, D4⟩ := s
  intro o2 o3
  show EvF mtab d k_X0_bindTo 2 [some (.inr (.inr 131)), some (.inl p1), some (.inl p2), some (.inl l3_1), dv o2, dv o3] [] (SH L0, D4) (none, (SH L0, t0))
  unfold b_X0_bindTo_2 at hb
  rcases ite_or hb with ⟨hc, hb⟩ | ⟨hc, hb⟩
  · refine ev_ift hc 3 (pc' := 7) (L' := [some (.inr (.inr 131)), some (.inl p1), some (.inl p2), some (.inl l3_1), dv o2, dv o3]) (S' := []) (σ' := (SH L0, D4)) (fun _ _ => rfl) ?_
    obtain ⟨x5, hx, hb⟩ := bnd hb
    refine ev_bind hx 7 (pc' := 20) (L' := fun x5 => [some (.inr (.inr 131)), some (.inl p1), some (.inl p2), some (.inl l3_1), dv o2, dv o3]) (S' := fun x5 => [.inl x5, .inr (.inr 13)]) (σ' := fun x5 => (SH L0, D4)) (fun _ _ => rfl) ?_
    obtain ⟨x6, hx, hb⟩ := bnd hb
    refine ev_bind hx 1 (pc' := 21) (L' := fun x6 => [some (.inr (.inr 131)), some (.inl p1), some (.inl p2), some (.inl l3_1), dv o2, dv o3]) (S' := fun x6 => [.inl x6]) (σ' := fun x6 => (SH L0, D4)) (fun _ _ => rfl) ?_
    obtain ⟨x7, hx, hb⟩ := bnd hb
    refine ev_bind hx 8 (pc' := 36) (L' := fun x7 => [some (.inr (.inr 131)), some (.inl p1), some (.inl p2), some (.inl l3_1), some (.inl x6), dv o3]) (S' := fun x7 => [.inl x7, .inr (.inr 14)]) (σ' := fun x7 => (SH L0, D4)) (fun _ _ => rfl) ?_
    obtain ⟨x8, hx, hb⟩ := bnd hb
    refine ev_bind hx 1 (pc' := 37) (L' := fun x8 => [some (.inr (.inr 131)), some (.inl p1), some (.inl p2), some (.inl l3_1), some (.inl x6), dv o3]) (S' := fun x8 => [.inl x8]) (σ' := fun x8 => (SH L0, D4)) (fun _ _ => rfl) ?_
    obtain ⟨x9, hx, hb⟩ := bnd hb
    refine ev_bind hx 5 (pc' := 46) (L' := fun x9 => [some (.inr (.inr 131)), some (.inl p1), some (.inl p2), some (.inl l3_1), some (.inl x6), some (.inl x8)]) (S' := fun x9 => [.inl x9]) (σ' := fun x9 => (SH L0, D4)) (fun _ _ => rfl) ?_
    obtain ⟨D30, hv, hb⟩ := bnd hb
    have hJ : EvF mtab d k_X0_bindTo 142 [some (.inr (.inr 131)), some (.inl p1), some (.inl p2), some (.inl l3_1), some (.inl x6), some (.inl x8)] [] (SH L0, D30) (none, (SH L0, t0)) := by
      cases hb
      exact ev_go 2 (pc' := 2) (L' := [some (.inr (.inr 131)), some (.inl p1), some (.inl p2), some (.inl (w32 (l3_1 + 1))), some (.inl x6), some (.inl x8)]) (S' := []) (σ' := (SH L0, D30)) (fun _ _ => rfl) (hK0 (some (.inl x6)) (some (.inl x8)))
    clear hb
    rcases ite_or hv with ⟨hc, hv⟩ | ⟨hc, hv⟩
    · refine ev_ift hc 2 (pc' := 50) (L' := [some (.inr (.inr 131)), some (.inl p1), some (.inl p2), some (.inl l3_1), some (.inl x6), some (.inl x8)]) (S' := []) (σ' := (SH L0, D4)) (fun _ _ => rfl) ?_
      obtain ⟨x10, hx, hv⟩ := bnd hv
      refine ev_bind hx 4 (pc' := 57) (L' := fun x10 => [some (.inr (.inr 131)), some (.inl p1), some (.inl p2), some (.inl l3_1), some (.inl x6), some (.inl x8)]) (S' := fun x10 => [.inl x10]) (σ' := fun x10 => (SH L0, D4)) (fun _ _ => rfl) ?_
      rcases ite_or hv with ⟨hc, hv⟩ | ⟨hc, hv⟩
      · refine ev_ift hc 1 (pc' := 60) (L' := [some (.inr (.inr 131)), some (.inl p1), some (.inl p2), some (.inl l3_1), some (.inl x6), some (.inl x8)]) (S' := []) (σ' := (SH L0, D4)) (fun _ _ => rfl) ?_
        obtain ⟨x11, hx, hv⟩ := bnd hv
        refine ev_bind hx 6 (pc' := 71) (L' := fun x11 => [some (.inr (.inr 131)), some (.inl p1), some (.inl p2), some (.inl l3_1), some (.inl x6), some (.inl x8)]) (S' := fun x11 => [.inl x11, .inr (.inr 139)]) (σ' := fun x11 => (SH L0, D4)) (fun _ _ => rfl) ?_
        obtain ⟨x12, hx, hv⟩ := bnd hv
        refine ev_bind hx 2 (pc' := 73) (L' := fun x12 => [some (.inr (.inr 131)), some (.inl p1), some (.inl p2), some (.inl l3_1), some (.inl x6), some (.inl x8)]) (S' := fun x12 => [.inl x12, .inl x11, .inr (.inr 139)]) (σ' := fun x12 => (SH L0, D4)) (fun _ _ => rfl) ?_
        obtain ⟨x13, hx, hv⟩ := bnd hv
        refine ev_bind hx 7 (pc' := 86) (L' := fun x13 => [some (.inr (.inr 131)), some (.inl p1), some (.inl p2), some (.inl l3_1), some (.inl x6), some (.inl x8)]) (S' := fun x13 => [.inl x13, .inr (.inr 123), .inl x12, .inl x11, .inr (.inr 139)]) (σ' := fun x13 => (SH L0, D4)) (fun _ _ => rfl) ?_
        obtain ⟨x14, hx, hv⟩ := bnd hv
        refine ev_bind hx 1 (pc' := 87) (L' := fun x14 => [some (.inr (.inr 131)), some (.inl p1), some (.inl p2), some (.inl l3_1), some (.inl x6), some (.inl x8)]) (S' := fun x14 => [.inl x14, .inl x12, .inl x11, .inr (.inr 139)]) (σ' := fun x14 => (SH L0, D4)) (fun _ _ => rfl) ?_
        obtain ⟨D15, hx, hv⟩ := bnd hv
        refine ev_bind hx 2 (pc' := 89) (L' := fun D15 => [some (.inr (.inr 131)), some (.inl p1), some (.inl p2), some (.inl l3_1), some (.inl x6), some (.inl x8)]) (S' := fun D15 => []) (σ' := fun D15 => (SH L0, D15)) (fun _ _ => rfl) ?_
        have he0 := Option.some.inj hv
        subst he0
        exact ev_go 1 (pc' := 142) (L' := [some (.inr (.inr 131)), some (.inl p1), some (.inl p2), some (.inl l3_1), some (.inl x6), some (.inl x8)]) (S' := []) (σ' := (SH L0, D15)) (fun _ _ => rfl) hJ
      · refine ev_iff hc 1 (pc' := 92) (L' := [some (.inr (.inr 131)), some (.inl p1), some (.inl p2), some (.inl l3_1), some (.inl x6), some (.inl x8)]) (S' := []) (σ' := (SH L0, D4)) (fun _ _ => rfl) ?_
        obtain ⟨x16, hx, hv⟩ := bnd hv
        refine ev_bind hx 4 (pc' := 99) (L' := fun x16 => [some (.inr (.inr 131)), some (.inl p1), some (.inl p2), some (.inl l3_1), some (.inl x6), some (.inl x8)]) (S' := fun x16 => [.inl x16]) (σ' := fun x16 => (SH L0, D4)) (fun _ _ => rfl) ?_
        rcases ite_or hv with ⟨hc, hv⟩ | ⟨hc, hv⟩
        · refine ev_ift hc 2 (pc' := 103) (L' := [some (.inr (.inr 131)), some (.inl p1), some (.inl p2), some (.inl l3_1), some (.inl x6), some (.inl x8)]) (S' := []) (σ' := (SH L0, D4)) (fun _ _ => rfl) ?_
          obtain ⟨x17, hx, hv⟩ := bnd hv
          refine ev_bind hx 4 (pc' := 110) (L' := fun x17 => [some (.inr (.inr 131)), some (.inl p1), some (.inl p2), some (.inl l3_1), some (.inl x6), some (.inl x8)]) (S' := fun x17 => [.inl x17]) (σ' := fun x17 => (SH L0, D4)) (fun _ _ => rfl) ?_
          rcases ite_or hv with ⟨hc, hv⟩ | ⟨hc, hv⟩
          · refine ev_ift hc 1 (pc' := 113) (L' := [some (.inr (.inr 131)), some (.inl p1), some (.inl p2), some (.inl l3_1), some (.inl x6), some (.inl x8)]) (S' := []) (σ' := (SH L0, D4)) (fun _ _ => rfl) ?_
            obtain ⟨x18, hx, hv⟩ := bnd hv
            refine ev_bind hx 6 (pc' := 124) (L' := fun x18 => [some (.inr (.inr 131)), some (.inl p1), some (.inl p2), some (.inl l3_1), some (.inl x6), some (.inl x8)]) (S' := fun x18 => [.inl x18, .inr (.inr 139)]) (σ' := fun x18 => (SH L0, D4)) (fun _ _ => rfl) ?_
            obtain ⟨x19, hx, hv⟩ := bnd hv
            refine ev_bind hx 2 (pc' := 126) (L' := fun x19 => [some (.inr (.inr 131)), some (.inl p1), some (.inl p2), some (.inl l3_1), some (.inl x6), some (.inl x8)]) (S' := fun x19 => [.inl x19, .inl x18, .inr (.inr 139)]) (σ' := fun x19 => (SH L0, D4)) (fun _ _ => rfl) ?_
            obtain ⟨x20, hx, hv⟩ := bnd hv
            refine ev_bind hx 7 (pc' := 139) (L' := fun x20 => [some (.inr (.inr 131)), some (.inl p1), some (.inl p2), some (.inl l3_1), some (.inl x6), some (.inl x8)]) (S' := fun x20 => [.inl x20, .inr (.inr 123), .inl x19, .inl x18, .inr (.inr 139)]) (σ' := fun x20 => (SH L0, D4)) (fun _ _ => rfl) ?_
            obtain ⟨x21, hx, hv⟩ := bnd hv
            refine ev_bind hx 1 (pc' := 140) (L' := fun x21 => [some (.inr (.inr 131)), some (.inl p1), some (.inl p2), some (.inl l3_1), some (.inl x6), some (.inl x8)]) (S' := fun x21 => [.inl x21, .inl x19, .inl x18, .inr (.inr 139)]) (σ' := fun x21 => (SH L0, D4)) (fun _ _ => rfl) ?_
            obtain ⟨D22, hx, hv⟩ := bnd hv
            refine ev_bind hx 2 (pc' := 142) (L' := fun D22 => [some (.inr (.inr 131)), some (.inl p1), some (.inl p2), some (.inl l3_1), some (.inl x6), some (.inl x8)]) (S' := fun D22 => []) (σ' := fun D22 => (SH L0, D22)) (fun _ _ => rfl) ?_
            have he0 := Option.some.inj hv
            subst he0
            exact hJ
          · refine ev_iff hc 1 (pc' := 142) (L' := [some (.inr (.inr 131)), some (.inl p1), some (.inl p2), some (.inl l3_1), some (.inl x6), some (.inl x8)]) (S' := []) (σ' := (SH L0, D4)) (fun _ _ => rfl) ?_
            have he0 := Option.some.inj hv
            subst he0
            exact hJ
        · refine ev_iff hc 2 (pc' := 142) (L' := [some (.inr (.inr 131)), some (.inl p1), some (.inl p2), some (.inl l3_1), some (.inl x6), some (.inl x8)]) (S' := []) (σ' := (SH L0, D4)) (fun _ _ => rfl) ?_
          have he0 := Option.some.inj hv
          subst he0
          exact hJ
    · refine ev_iff hc 2 (pc' := 92) (L' := [some (.inr (.inr 131)), some (.inl p1), some (.inl p2), some (.inl l3_1), some (.inl x6), some (.inl x8)]) (S' := []) (σ' := (SH L0, D4)) (fun _ _ => rfl) ?_
      obtain ⟨x23, hx, hv⟩ := bnd hv
      refine ev_bind hx 4 (pc' := 99) (L' := fun x23 => [some (.inr (.inr 131)), some (.inl p1), some (.inl p2), some (.inl l3_1), some (.inl x6), some (.inl x8)]) (S' := fun x23 => [.inl x23]) (σ' := fun x23 => (SH L0, D4)) (fun _ _ => rfl) ?_
      rcases ite_or hv with ⟨hc, hv⟩ | ⟨hc, hv⟩
      · refine ev_ift hc 2 (pc' := 103) (L' := [some (.inr (.inr 131)), some (.inl p1), some (.inl p2), some (.inl l3_1), some (.inl x6), some (.inl x8)]) (S' := []) (σ' := (SH L0, D4)) (fun _ _ => rfl) ?_
        obtain ⟨x24, hx, hv⟩ := bnd hv
        refine ev_bind hx 4 (pc' := 110) (L' := fun x24 => [some (.inr (.inr 131)), some (.inl p1), some (.inl p2), some (.inl l3_1), some (.inl x6), some (.inl x8)]) (S' := fun x24 => [.inl x24]) (σ' := fun x24 => (SH L0, D4)) (fun _ _ => rfl) ?_
        rcases ite_or hv with ⟨hc, hv⟩ | ⟨hc, hv⟩
        · refine ev_ift hc 1 (pc' := 113) (L' := [some (.inr (.inr 131)), some (.inl p1), some (.inl p2), some (.inl l3_1), some (.inl x6), some (.inl x8)]) (S' := []) (σ' := (SH L0, D4)) (fun _ _ => rfl) ?_
          obtain ⟨x25, hx, hv⟩ := bnd hv
          refine ev_bind hx 6 (pc' := 124) (L' := fun x25 => [some (.inr (.inr 131)), some (.inl p1), some (.inl p2), some (.inl l3_1), some (.inl x6), some (.inl x8)]) (S' := fun x25 => [.inl x25, .inr (.inr 139)]) (σ' := fun x25 => (SH L0, D4)) (fun _ _ => rfl) ?_
          obtain ⟨x26, hx, hv⟩ := bnd hv
          refine ev_bind hx 2 (pc' := 126) (L' := fun x26 => [some (.inr (.inr 131)), some (.inl p1), some (.inl p2), some (.inl l3_1), some (.inl x6), some (.inl x8)]) (S' := fun x26 => [.inl x26, .inl x25, .inr (.inr 139)]) (σ' := fun x26 => (SH L0, D4)) (fun _ _ => rfl) ?_
          obtain ⟨x27, hx, hv⟩ := bnd hv
          refine ev_bind hx 7 (pc' := 139) (L' := fun x27 => [some (.inr (.inr 131)), some (.inl p1), some (.inl p2), some (.inl l3_1), some (.inl x6), some (.inl x8)]) (S' := fun x27 => [.inl x27, .inr (.inr 123), .inl x26, .inl x25, .inr (.inr 139)]) (σ' := fun x27 => (SH L0, D4)) (fun _ _ => rfl) ?_
          obtain ⟨x28, hx, hv⟩ := bnd hv
          refine ev_bind hx 1 (pc' := 140) (L' := fun x28 => [some (.inr (.inr 131)), some (.inl p1), some (.inl p2), some (.inl l3_1), some (.inl x6), some (.inl x8)]) (S' := fun x28 => [.inl x28, .inl x26, .inl x25, .inr (.inr 139)]) (σ' := fun x28 => (SH L0, D4)) (fun _ _ => rfl) ?_
          obtain ⟨D29, hx, hv⟩ := bnd hv
          refine ev_bind hx 2 (pc' := 142) (L' := fun D29 => [some (.inr (.inr 131)), some (.inl p1), some (.inl p2), some (.inl l3_1), some (.inl x6), some (.inl x8)]) (S' := fun D29 => []) (σ' := fun D29 => (SH L0, D29)) (fun _ _ => rfl) ?_
          have he0 := Option.some.inj hv
          subst he0
          exact hJ
        · refine ev_iff hc 1 (pc' := 142) (L' := [some (.inr (.inr 131)), some (.inl p1), some (.inl p2), some (.inl l3_1), some (.inl x6), some (.inl x8)]) (S' := []) (σ' := (SH L0, D4)) (fun _ _ => rfl) ?_
          have he0 := Option.some.inj hv
          subst he0
          exact hJ
      · refine ev_iff hc 2 (pc' := 142) (L' := [some (.inr (.inr 131)), some (.inl p1), some (.inl p2), some (.inl l3_1), some (.inl x6), some (.inl x8)]) (S' := []) (σ' := (SH L0, D4)) (fun _ _ => rfl) ?_
        have he0 := Option.some.inj hv
        subst he0
        exact hJ
  · refine ev_iff hc 3 (pc' := 148) (L' := [some (.inr (.inr 131)), some (.inl p1), some (.inl p2), some (.inl l3_1), dv o2, dv o3]) (S' := []) (σ' := (SH L0, D4)) (fun _ _ => rfl) ?_
    cases hb
    exact hK0 (some (.inl l3_1)) o2 o3
set_option maxRecDepth 100000 in
set_option maxHeartbeats 4000000 in
theorem e_X0_strongest (L0 d : Nat) (hd : 2 ≤ d) {p1 : Int} {D : DT} {t0 : Int} (h : m_X0_strongest p1 D = some t0) : Ret mtab d 8 [.inr (.inr 131), .inl p1] (SH L0, D) (some (.inl t0), (SH L0, D)) := by
  obtain ⟨d, rfl⟩ : ∃ e, d = e + 1 := ⟨d - 1, by omega⟩
  refine Ret.of (code := k_X0_strongest) (ml := 5) rfl ?_
  show EvF mtab d k_X0_strongest 0 [some (.inr (.inr 131)), some (.inl p1), none, none, none] [] (SH L0, D) (some (.inl t0), (SH L0, D))
  unfold m_X0_strongest at h
  obtain ⟨r, hr, h⟩ := bnd h
  have hX : (fun (r : Int) => ∀ (o14 : Option (Sum Int Nat)) (o15 : Option (Sum Int Nat)), EvF mtab d k_X0_strongest 78 [some (.inr (.inr 131)), some (.inl p1), some (.inl r), dv o14, dv o15] [] (SH L0, D) (some (.inl t0), (SH L0, D))) r := by
    obtain ⟨l2_13, hre⟩ : ∃ q, q = r := ⟨r, rfl⟩
    subst hre
    intro o14 o15
    show EvF mtab d k_X0_strongest 78 [some (.inr (.inr 131)), some (.inl p1), some (.inl l2_13), dv o14, dv o15] [] (SH L0, D) (some (.inl t0), (SH L0, D))
    cases h
    exact ev_ret 2 (fun _ _ => rfl)
  clear h
  refine ev_go 4 (pc' := 4) (L' := [some (.inr (.inr 131)), some (.inl p1), some (.inl (-1)), some (.inl 0), none]) (S' := []) (σ' := (SH L0, D)) (fun _ _ => rfl) ?_
  refine loop_ind (P := fun s => ∀ (o3 : Option (Sum Int Nat)), EvF mtab d k_X0_strongest 4 [some (.inr (.inr 131)), some (.inl p1), some (.inl s.1), some (.inl s.2), dv o3] [] (SH L0, D) (some (.inl t0), (SH L0, D))) (X := fun r => ∀ (o14 : Option (Sum Int Nat)) (o15 : Option (Sum Int Nat)), EvF mtab d k_X0_strongest 78 [some (.inr (.inr 131)), some (.inl p1), some (.inl r), dv o14, dv o15] [] (SH L0, D) (some (.inl t0), (SH L0, D))) hr hX ?_ none
  clear hr hX
  intro s t hb hK0
  obtain ⟨l2_1, l3_2⟩ := s
  intro o3
  show EvF mtab d k_X0_strongest 4 [some (.inr (.inr 131)), some (.inl p1), some (.inl l2_1), some (.inl l3_2), dv o3] [] (SH L0, D) (some (.inl t0), (SH L0, D))
  unfold b_X0_strongest_4 at hb
  obtain ⟨x4, hx, hb⟩ := bnd hb
  refine ev_bind hx 6 (pc' := 14) (L' := fun x4 => [some (.inr (.inr 131)), some (.inl p1), some (.inl l2_1), some (.inl l3_2), dv o3]) (S' := fun x4 => [.inl x4, .inl l3_2]) (σ' := fun x4 => (SH L0, D)) (fun _ _ => rfl) ?_
  rcases ite_or hb with ⟨hc, hb⟩ | ⟨hc, hb⟩
  · refine ev_ift hc 1 (pc' := 17) (L' := [some (.inr (.inr 131)), some (.inl p1), some (.inl l2_1), some (.inl l3_2), dv o3]) (S' := []) (σ' := (SH L0, D)) (fun _ _ => rfl) ?_
    obtain ⟨x5, hx, hb⟩ := bnd hb
    refine ev_call (e_X7_member_4 L0 d (by omega) hx) 5 (pc' := 26) (L' := [some (.inr (.inr 131)), some (.inl p1), some (.inl l2_1), some (.inl l3_2), dv o3]) (S' := []) (fun _ _ => rfl) ?_
    obtain ⟨x6, hx, hb⟩ := bnd hb
    refine ev_bind hx 5 (pc' := 35) (L' := fun x6 => [some (.inr (.inr 131)), some (.inl p1), some (.inl l2_1), some (.inl l3_2), some (.inl x5)]) (S' := fun x6 => [.inl x6]) (σ' := fun x6 => (SH L0, D)) (fun _ _ => rfl) ?_
    obtain ⟨l2_12, hv, hb⟩ := bnd hb
    have hJ : EvF mtab d k_X0_strongest 72 [some (.inr (.inr 131)), some (.inl p1), some (.inl l2_12), some (.inl l3_2), some (.inl x5)] [] (SH L0, D) (some (.inl t0), (SH L0, D)) := by
      cases hb
      exact ev_go 2 (pc' := 4) (L' := [some (.inr (.inr 131)), some (.inl p1), some (.inl l2_12), some (.inl (w32 (l3_2 + 1))), some (.inl x5)]) (S' := []) (σ' := (SH L0, D)) (fun _ _ => rfl) (hK0 (some (.inl x5)))
    clear hb
    rcases ite_or hv with ⟨hc, hv⟩ | ⟨hc, hv⟩
    · refine ev_ift hc 1 (pc' := 38) (L' := [some (.inr (.inr 131)), some (.inl p1), some (.inl l2_1), some (.inl l3_2), some (.inl x5)]) (S' := []) (σ' := (SH L0, D)) (fun _ _ => rfl) ?_
      rcases ite_or hv with ⟨hc, hv⟩ | ⟨hc, hv⟩
      · refine ev_ift hc 3 (pc' := 64) (L' := [some (.inr (.inr 131)), some (.inl p1), some (.inl l2_1), some (.inl l3_2), some (.inl x5)]) (S' := []) (σ' := (SH L0, D)) (fun _ _ => rfl) ?_
        obtain ⟨x7, hx, hv⟩ := bnd hv
        refine ev_bind hx 4 (pc' := 71) (L' := fun x7 => [some (.inr (.inr 131)), some (.inl p1), some (.inl l2_1), some (.inl l3_2), some (.inl x5)]) (S' := fun x7 => [.inl x7]) (σ' := fun x7 => (SH L0, D)) (fun _ _ => rfl) ?_
        have he0 := Option.some.inj hv
        subst he0
        exact ev_go 1 (pc' := 72) (L' := [some (.inr (.inr 131)), some (.inl p1), some (.inl x7), some (.inl l3_2), some (.inl x5)]) (S' := []) (σ' := (SH L0, D)) (fun _ _ => rfl) hJ
      · refine ev_iff hc 3 (pc' := 43) (L' := [some (.inr (.inr 131)), some (.inl p1), some (.inl l2_1), some (.inl l3_2), some (.inl x5)]) (S' := []) (σ' := (SH L0, D)) (fun _ _ => rfl) ?_
        obtain ⟨x8, hx, hv⟩ := bnd hv
        refine ev_bind hx 6 (pc' := 54) (L' := fun x8 => [some (.inr (.inr 131)), some (.inl p1), some (.inl l2_1), some (.inl l3_2), some (.inl x5)]) (S' := fun x8 => [.inl x8, .inr (.inr 139)]) (σ' := fun x8 => (SH L0, D)) (fun _ _ => rfl) ?_
        obtain ⟨x9, hx, hv⟩ := bnd hv
        refine ev_bind hx 1 (pc' := 55) (L' := fun x9 => [some (.inr (.inr 131)), some (.inl p1), some (.inl l2_1), some (.inl l3_2), some (.inl x5)]) (S' := fun x9 => [.inl x9]) (σ' := fun x9 => (SH L0, D)) (fun _ _ => rfl) ?_
        obtain ⟨x10, hx, hv⟩ := bnd hv
        refine ev_bind hx 4 (pc' := 61) (L' := fun x10 => [some (.inr (.inr 131)), some (.inl p1), some (.inl l2_1), some (.inl l3_2), some (.inl x5)]) (S' := fun x10 => [.inl x10, .inl x9]) (σ' := fun x10 => (SH L0, D)) (fun _ _ => rfl) ?_
        rcases ite_or hv with ⟨hc, hv⟩ | ⟨hc, hv⟩
        · refine ev_ift hc 1 (pc' := 64) (L' := [some (.inr (.inr 131)), some (.inl p1), some (.inl l2_1), some (.inl l3_2), some (.inl x5)]) (S' := []) (σ' := (SH L0, D)) (fun _ _ => rfl) ?_
          obtain ⟨x11, hx, hv⟩ := bnd hv
          refine ev_bind hx 4 (pc' := 71) (L' := fun x11 => [some (.inr (.inr 131)), some (.inl p1), some (.inl l2_1), some (.inl l3_2), some (.inl x5)]) (S' := fun x11 => [.inl x11]) (σ' := fun x11 => (SH L0, D)) (fun _ _ => rfl) ?_
          have he0 := Option.some.inj hv
          subst he0
          exact ev_go 1 (pc' := 72) (L' := [some (.inr (.inr 131)), some (.inl p1), some (.inl x11), some (.inl l3_2), some (.inl x5)]) (S' := []) (σ' := (SH L0, D)) (fun _ _ => rfl) hJ
        · refine ev_iff hc 1 (pc' := 72) (L' := [some (.inr (.inr 131)), some (.inl p1), some (.inl l2_1), some (.inl l3_2), some (.inl x5)]) (S' := []) (σ' := (SH L0, D)) (fun _ _ => rfl) ?_
          have he0 := Option.some.inj hv
          subst he0
          exact hJ
    · refine ev_iff hc 1 (pc' := 72) (L' := [some (.inr (.inr 131)), some (.inl p1), some (.inl l2_1), some (.inl l3_2), some (.inl x5)]) (S' := []) (σ' := (SH L0, D)) (fun _ _ => rfl) ?_
      have he0 := Option.some.inj hv
      subst he0
      exact hJ
  · refine ev_iff hc 1 (pc' := 78) (L' := [some (.inr (.inr 131)), some (.inl p1), some (.inl l2_1), some (.inl l3_2), dv o3]) (S' := []) (σ' := (SH L0, D)) (fun _ _ => rfl) ?_
    cases hb
    exact hK0 (some (.inl l3_2)) o3
set_option maxRecDepth 100000 in
set_option maxHeartbeats 4000000 in
theorem e_X0_stand (L0 d : Nat) (hd : 3 ≤ d) {p1 p2 : Int} {D : DT} {t0 : DT} (h : m_X0_stand p1 p2 D = some t0) : Ret mtab d 5 [.inr (.inr 131), .inl p1, .inl p2] (SH L0, D) (none, (SH L0, t0)) := by
  obtain ⟨d, rfl⟩ : ∃ e, d = e + 1 := ⟨d - 1, by omega⟩
  refine Ret.of (code := k_X0_stand) (ml := 6) rfl ?_
  show EvF mtab d k_X0_stand 0 [some (.inr (.inr 131)), some (.inl p1), some (.inl p2), none, none, none] [] (SH L0, D) (none, (SH L0, t0))
  unfold m_X0_stand at h
  obtain ⟨x1, hx, h⟩ := bnd h
  refine ev_call (e_X7_entryOf_4 L0 d (by omega) hx) 6 (pc' := 10) (L' := [some (.inr (.inr 131)), some (.inl p1), some (.inl p2), some (.inl 0), none, none]) (S' := []) (fun _ _ => rfl) ?_
  obtain ⟨D2, hx, h⟩ := bnd h
  refine ev_bind hx 6 (pc' := 19) (L' := fun D2 => [some (.inr (.inr 131)), some (.inl p1), some (.inl p2), some (.inl 0), some (.inl x1), none]) (S' := fun D2 => []) (σ' := fun D2 => (SH L0, D2)) (fun _ _ => rfl) ?_
  obtain ⟨r, hr, h⟩ := bnd h
  have hX : (fun (r : DT) => ∀ (o12 : Option (Sum Int Nat)) (o13 : Option (Sum Int Nat)) (o14 : Option (Sum Int Nat)), EvF mtab d k_X0_stand 71 [some (.inr (.inr 131)), some (.inl p1), some (.inl p2), dv o12, dv o13, dv o14] [] (SH L0, r) (none, (SH L0, t0))) r := by
    obtain ⟨D15, hre⟩ : ∃ q, q = r := ⟨r, rfl⟩
    subst hre
    intro o12 o13 o14
    show EvF mtab d k_X0_stand 71 [some (.inr (.inr 131)), some (.inl p1), some (.inl p2), dv o12, dv o13, dv o14] [] (SH L0, D15) (none, (SH L0, t0))
    cases h
    exact ev_ret 1 (fun _ _ => rfl)
  clear h
  refine ev_go 2 (pc' := 22) (L' := [some (.inr (.inr 131)), some (.inl p1), some (.inl p2), some (.inl 0), some (.inl x1), some (.inl 0)]) (S' := []) (σ' := (SH L0, D2)) (fun _ _ => rfl) ?_
  refine loop_ind (P := fun s => EvF mtab d k_X0_stand 22 [some (.inr (.inr 131)), some (.inl p1), some (.inl p2), some (.inl s.1), some (.inl s.2.1), some (.inl s.2.2.1)] [] (SH L0, s.2.2.2) (none, (SH L0, t0))) (X := fun r => ∀ (o12 : Option (Sum Int Nat)) (o13 : Option (Sum Int Nat)) (o14 : Option (Sum Int Nat)), EvF mtab d k_X0_stand 71 [some (.inr (.inr 131)), some (.inl p1), some (.inl p2), dv o12, dv o13, dv o14] [] (SH L0, r) (none, (SH L0, t0))) hr hX ?_
  clear hr hX
  intro s t hb hK0
  obtain ⟨l3_3, l4_4, l5_5, D6⟩ := s
  show EvF mtab d k_X0_stand 22 [some (.inr (.inr 131)), some (.inl p1), some (.inl p2), some (.inl l3_3), some (.inl l4_4), some (.inl l5_5)] [] (SH L0, D6) (none, (SH L0, t0))
  unfold b_X0_stand_22 at hb
  obtain ⟨x7, hx, hb⟩ := bnd hb
  refine ev_bind hx 6 (pc' := 33) (L' := fun x7 => [some (.inr (.inr 131)), some (.inl p1), some (.inl p2), some (.inl l3_3), some (.inl l4_4), some (.inl l5_5)]) (S' := fun x7 => [.inl x7, .inl l5_5]) (σ' := fun x7 => (SH L0, D6)) (fun _ _ => rfl) ?_
  rcases ite_or hb with ⟨hc, hb⟩ | ⟨hc, hb⟩
  · refine ev_ift hc 1 (pc' := 36) (L' := [some (.inr (.inr 131)), some (.inl p1), some (.inl p2), some (.inl l3_3), some (.inl l4_4), some (.inl l5_5)]) (S' := []) (σ' := (SH L0, D6)) (fun _ _ => rfl) ?_
    rcases ite_or hb with ⟨hc, hb⟩ | ⟨hc, hb⟩
    · refine ev_ift hc 3 (pc' := 71) (L' := [some (.inr (.inr 131)), some (.inl p1), some (.inl p2), some (.inl l3_3), some (.inl l4_4), some (.inl l5_5)]) (S' := []) (σ' := (SH L0, D6)) (fun _ _ => rfl) ?_
      cases hb
      exact hK0 (some (.inl l3_3)) (some (.inl l4_4)) (some (.inl l5_5))
    · refine ev_iff hc 3 (pc' := 42) (L' := [some (.inr (.inr 131)), some (.inl p1), some (.inl p2), some (.inl l3_3), some (.inl l4_4), some (.inl l5_5)]) (S' := []) (σ' := (SH L0, D6)) (fun _ _ => rfl) ?_
      obtain ⟨⟨x8, D9⟩, hx, hb⟩ := bnd hb
      refine ev_call (e_X0_putDown L0 d (by omega) hx) 5 (pc' := 50) (L' := [some (.inr (.inr 131)), some (.inl p1), some (.inl p2), some (.inl l3_3), some (.inl l4_4), some (.inl l5_5)]) (S' := []) (fun _ _ => rfl) ?_
      obtain ⟨D10, hx, hb⟩ := bnd hb
      refine ev_call (e_X0_bindTo L0 d (by omega) hx) 5 (pc' := 58) (L' := [some (.inr (.inr 131)), some (.inl p1), some (.inl p2), some (.inl x8), some (.inl l4_4), some (.inl l5_5)]) (S' := []) (fun _ _ => rfl) ?_
      obtain ⟨x11, hx, hb⟩ := bnd hb
      refine ev_call (e_X0_strongest L0 d (by omega) hx) 3 (pc' := 63) (L' := [some (.inr (.inr 131)), some (.inl p1), some (.inl p2), some (.inl x8), some (.inl l4_4), some (.inl l5_5)]) (S' := []) (fun _ _ => rfl) ?_
      cases hb
      exact ev_go 3 (pc' := 22) (L' := [some (.inr (.inr 131)), some (.inl p1), some (.inl p2), some (.inl x8), some (.inl x11), some (.inl (w32 (l5_5 + 1)))]) (S' := []) (σ' := (SH L0, D10)) (fun _ _ => rfl) hK0
  · refine ev_iff hc 1 (pc' := 71) (L' := [some (.inr (.inr 131)), some (.inl p1), some (.inl p2), some (.inl l3_3), some (.inl l4_4), some (.inl l5_5)]) (S' := []) (σ' := (SH L0, D6)) (fun _ _ => rfl) ?_
    cases hb
    exact hK0 (some (.inl l3_3)) (some (.inl l4_4)) (some (.inl l5_5))
set_option maxRecDepth 100000 in
set_option maxHeartbeats 4000000 in
theorem e_X2_worth (L0 d : Nat) (hd : 1 ≤ d) {p1 : Int} {D : DT} {t0 : Int} (h : m_X2_worth p1 D = some t0) : Ret mtab d 33 [.inr (.inr 122), .inl p1] (SH L0, D) (some (.inl t0), (SH L0, D)) := by
  obtain ⟨d, rfl⟩ : ∃ e, d = e + 1 := ⟨d - 1, by omega⟩
  refine Ret.of (code := k_X2_worth) (ml := 2) rfl ?_
  show EvF mtab d k_X2_worth 0 [some (.inr (.inr 122)), some (.inl p1)] [] (SH L0, D) (some (.inl t0), (SH L0, D))
  unfold m_X2_worth at h
  obtain ⟨x1, hx, h⟩ := bnd h
  refine ev_bind hx 4 (pc' := 6) (L' := fun x1 => [some (.inr (.inr 122)), some (.inl p1)]) (S' := fun x1 => [.inl x1]) (σ' := fun x1 => (SH L0, D)) (fun _ _ => rfl) ?_
  cases h
  exact ev_ret 3 (fun _ _ => rfl)
set_option maxRecDepth 100000 in
set_option maxHeartbeats 4000000 in
theorem e_X2_saved (L0 d : Nat) (hd : 2 ≤ d) {p1 p2 : Int} {D : DT} {t0 : Int} (h : m_X2_saved p1 p2 D = some t0) : Ret mtab d 35 [.inr (.inr 122), .inl p1, .inl p2] (SH L0, D) (some (.inl t0), (SH L0, D)) := by
  obtain ⟨d, rfl⟩ : ∃ e, d = e + 1 := ⟨d - 1, by omega⟩
  refine Ret.of (code := k_X2_saved) (ml := 6) rfl ?_
  show EvF mtab d k_X2_saved 0 [some (.inr (.inr 122)), some (.inl p1), some (.inl p2), none, none, none] [] (SH L0, D) (some (.inl t0), (SH L0, D))
  unfold m_X2_saved at h
  obtain ⟨r, hr, h⟩ := bnd h
  have hX : (fun (r : Int) => ∀ (o10 : Option (Sum Int Nat)) (o11 : Option (Sum Int Nat)), EvF mtab d k_X2_saved 61 [some (.inr (.inr 122)), some (.inl p1), some (.inl p2), some (.inl r), dv o10, dv o11] [] (SH L0, D) (some (.inl t0), (SH L0, D))) r := by
    obtain ⟨l3_9, hre⟩ : ∃ q, q = r := ⟨r, rfl⟩
    subst hre
    intro o10 o11
    show EvF mtab d k_X2_saved 61 [some (.inr (.inr 122)), some (.inl p1), some (.inl p2), some (.inl l3_9), dv o10, dv o11] [] (SH L0, D) (some (.inl t0), (SH L0, D))
    cases h
    exact ev_ret 2 (fun _ _ => rfl)
  clear h
  refine ev_go 4 (pc' := 5) (L' := [some (.inr (.inr 122)), some (.inl p1), some (.inl p2), some (.inl 0), some (.inl 0), none]) (S' := []) (σ' := (SH L0, D)) (fun _ _ => rfl) ?_
  refine loop_ind (P := fun s => ∀ (o3 : Option (Sum Int Nat)), EvF mtab d k_X2_saved 5 [some (.inr (.inr 122)), some (.inl p1), some (.inl p2), some (.inl s.1), some (.inl s.2), dv o3] [] (SH L0, D) (some (.inl t0), (SH L0, D))) (X := fun r => ∀ (o10 : Option (Sum Int Nat)) (o11 : Option (Sum Int Nat)), EvF mtab d k_X2_saved 61 [some (.inr (.inr 122)), some (.inl p1), some (.inl p2), some (.inl r), dv o10, dv o11] [] (SH L0, D) (some (.inl t0), (SH L0, D))) hr hX ?_ none
  clear hr hX
  intro s t hb hK0
  obtain ⟨l3_1, l4_2⟩ := s
  intro o3
  show EvF mtab d k_X2_saved 5 [some (.inr (.inr 122)), some (.inl p1), some (.inl p2), some (.inl l3_1), some (.inl l4_2), dv o3] [] (SH L0, D) (some (.inl t0), (SH L0, D))
  unfold b_X2_saved_5 at hb
  obtain ⟨x4, hx, hb⟩ := bnd hb
  refine ev_call (e_X7_arcsOf L0 d (by omega) hx) 5 (pc' := 15) (L' := [some (.inr (.inr 122)), some (.inl p1), some (.inl p2), some (.inl l3_1), some (.inl l4_2), dv o3]) (S' := [.inl l4_2]) (fun _ _ => rfl) ?_
  rcases ite_or hb with ⟨hc, hb⟩ | ⟨hc, hb⟩
  · refine ev_ift hc 1 (pc' := 18) (L' := [some (.inr (.inr 122)), some (.inl p1), some (.inl p2), some (.inl l3_1), some (.inl l4_2), dv o3]) (S' := []) (σ' := (SH L0, D)) (fun _ _ => rfl) ?_
    obtain ⟨x5, hx, hb⟩ := bnd hb
    refine ev_bind hx 5 (pc' := 27) (L' := fun x5 => [some (.inr (.inr 122)), some (.inl p1), some (.inl p2), some (.inl l3_1), some (.inl l4_2), dv o3]) (S' := fun x5 => [.inl x5]) (σ' := fun x5 => (SH L0, D)) (fun _ _ => rfl) ?_
    obtain ⟨x6, hx, hb⟩ := bnd hb
    refine ev_bind hx 8 (pc' := 42) (L' := fun x6 => [some (.inr (.inr 122)), some (.inl p1), some (.inl p2), some (.inl l3_1), some (.inl l4_2), some (.inl (w32 (x5 + l4_2)))]) (S' := fun x6 => [.inl x6]) (σ' := fun x6 => (SH L0, D)) (fun _ _ => rfl) ?_
    obtain ⟨l3_8, hv, hb⟩ := bnd hb
    have hJ : EvF mtab d k_X2_saved 55 [some (.inr (.inr 122)), some (.inl p1), some (.inl p2), some (.inl l3_8), some (.inl l4_2), some (.inl (w32 (x5 + l4_2)))] [] (SH L0, D) (some (.inl t0), (SH L0, D)) := by
      cases hb
      exact ev_go 2 (pc' := 5) (L' := [some (.inr (.inr 122)), some (.inl p1), some (.inl p2), some (.inl l3_8), some (.inl (w32 (l4_2 + 1))), some (.inl (w32 (x5 + l4_2)))]) (S' := []) (σ' := (SH L0, D)) (fun _ _ => rfl) (hK0 (some (.inl (w32 (x5 + l4_2)))))
    clear hb
    rcases ite_or hv with ⟨hc, hv⟩ | ⟨hc, hv⟩
    · refine ev_ift hc 2 (pc' := 46) (L' := [some (.inr (.inr 122)), some (.inl p1), some (.inl p2), some (.inl l3_1), some (.inl l4_2), some (.inl (w32 (x5 + l4_2)))]) (S' := []) (σ' := (SH L0, D)) (fun _ _ => rfl) ?_
      obtain ⟨x7, hx, hv⟩ := bnd hv
      refine ev_call (e_X2_worth L0 d (by omega) hx) 4 (pc' := 53) (L' := [some (.inr (.inr 122)), some (.inl p1), some (.inl p2), some (.inl l3_1), some (.inl l4_2), some (.inl (w32 (x5 + l4_2)))]) (S' := [.inl l3_1]) (fun _ _ => rfl) ?_
      have he0 := Option.some.inj hv
      subst he0
      exact ev_go 2 (pc' := 55) (L' := [some (.inr (.inr 122)), some (.inl p1), some (.inl p2), some (.inl (w32 (l3_1 + x7))), some (.inl l4_2), some (.inl (w32 (x5 + l4_2)))]) (S' := []) (σ' := (SH L0, D)) (fun _ _ => rfl) hJ
    · refine ev_iff hc 2 (pc' := 55) (L' := [some (.inr (.inr 122)), some (.inl p1), some (.inl p2), some (.inl l3_1), some (.inl l4_2), some (.inl (w32 (x5 + l4_2)))]) (S' := []) (σ' := (SH L0, D)) (fun _ _ => rfl) ?_
      have he0 := Option.some.inj hv
      subst he0
      exact hJ
  · refine ev_iff hc 1 (pc' := 61) (L' := [some (.inr (.inr 122)), some (.inl p1), some (.inl p2), some (.inl l3_1), some (.inl l4_2), dv o3]) (S' := []) (σ' := (SH L0, D)) (fun _ _ => rfl) ?_
    cases hb
    exact hK0 (some (.inl l4_2)) o3
set_option maxRecDepth 100000 in
set_option maxHeartbeats 4000000 in
theorem e_X0_savedBy_131_7 (L0 d : Nat) (hd : 3 ≤ d) {p2 : Int} {D : DT} {t0 : Int} (h : m_X0_savedBy 7 p2 D = some t0) : Ret mtab d 9 [.inr (.inr 131), .inr (.inr 7), .inl p2] (SH L0, D) (some (.inl t0), (SH L0, D)) := by
  obtain ⟨d, rfl⟩ : ∃ e, d = e + 1 := ⟨d - 1, by omega⟩
  refine Ret.of (code := k_X0_savedBy) (ml := 6) rfl ?_
  show EvF mtab d k_X0_savedBy 0 [some (.inr (.inr 131)), some (.inr (.inr 7)), some (.inl p2), none, none, none] [] (SH L0, D) (some (.inl t0), (SH L0, D))
  unfold m_X0_savedBy at h
  obtain ⟨x1, hx, h⟩ := bnd h
  refine ev_bind hx 5 (pc' := 9) (L' := fun x1 => [some (.inr (.inr 131)), some (.inr (.inr 7)), some (.inl p2), none, none, none]) (S' := fun x1 => [.inl x1]) (σ' := fun x1 => (SH L0, D)) (fun _ _ => rfl) ?_
  obtain ⟨r, hr, h⟩ := bnd h
  have hX : (fun (r : Int) => ∀ (o9 : Option (Sum Int Nat)), EvF mtab d k_X0_savedBy 62 [some (.inr (.inr 131)), some (.inr (.inr 7)), some (.inl p2), some (.inl x1), some (.inl r), dv o9] [] (SH L0, D) (some (.inl t0), (SH L0, D))) r := by
    obtain ⟨l4_8, hre⟩ : ∃ q, q = r := ⟨r, rfl⟩
    subst hre
    intro o9
    show EvF mtab d k_X0_savedBy 62 [some (.inr (.inr 131)), some (.inr (.inr 7)), some (.inl p2), some (.inl x1), some (.inl l4_8), dv o9] [] (SH L0, D) (some (.inl t0), (SH L0, D))
    cases h
    exact ev_ret 2 (fun _ _ => rfl)
  clear h
  refine ev_go 5 (pc' := 16) (L' := [some (.inr (.inr 131)), some (.inr (.inr 7)), some (.inl p2), some (.inl x1), some (.inl 0), some (.inl 1)]) (S' := []) (σ' := (SH L0, D)) (fun _ _ => rfl) ?_
  refine loop_ind (P := fun s => EvF mtab d k_X0_savedBy 16 [some (.inr (.inr 131)), some (.inr (.inr 7)), some (.inl p2), some (.inl x1), some (.inl s.1), some (.inl s.2)] [] (SH L0, D) (some (.inl t0), (SH L0, D))) (X := fun r => ∀ (o9 : Option (Sum Int Nat)), EvF mtab d k_X0_savedBy 62 [some (.inr (.inr 131)), some (.inr (.inr 7)), some (.inl p2), some (.inl x1), some (.inl r), dv o9] [] (SH L0, D) (some (.inl t0), (SH L0, D))) hr hX ?_
  clear hr hX
  intro s t hb hK0
  obtain ⟨l4_2, l5_3⟩ := s
  show EvF mtab d k_X0_savedBy 16 [some (.inr (.inr 131)), some (.inr (.inr 7)), some (.inl p2), some (.inl x1), some (.inl l4_2), some (.inl l5_3)] [] (SH L0, D) (some (.inl t0), (SH L0, D))
  unfold b_X0_savedBy_16 at hb
  obtain ⟨x4, hx, hb⟩ := bnd hb
  refine ev_bind hx 6 (pc' := 27) (L' := fun x4 => [some (.inr (.inr 131)), some (.inr (.inr 7)), some (.inl p2), some (.inl x1), some (.inl l4_2), some (.inl l5_3)]) (S' := fun x4 => [.inl x4, .inl l5_3]) (σ' := fun x4 => (SH L0, D)) (fun _ _ => rfl) ?_
  rcases ite_or hb with ⟨hc, hb⟩ | ⟨hc, hb⟩
  · refine ev_ift hc 1 (pc' := 30) (L' := [some (.inr (.inr 131)), some (.inr (.inr 7)), some (.inl p2), some (.inl x1), some (.inl l4_2), some (.inl l5_3)]) (S' := []) (σ' := (SH L0, D)) (fun _ _ => rfl) ?_
    obtain ⟨x5, hx, hb⟩ := bnd hb
    refine ev_bind hx 10 (pc' := 44) (L' := fun x5 => [some (.inr (.inr 131)), some (.inr (.inr 7)), some (.inl p2), some (.inl x1), some (.inl l4_2), some (.inl l5_3)]) (S' := fun x5 => [.inl x5, .inr (.inr 122), .inl l4_2]) (σ' := fun x5 => (SH L0, D)) (fun _ _ => rfl) ?_
    obtain ⟨x6, hx, hb⟩ := bnd hb
    refine ev_bind hx 5 (pc' := 50) (L' := fun x6 => [some (.inr (.inr 131)), some (.inr (.inr 7)), some (.inl p2), some (.inl x1), some (.inl l4_2), some (.inl l5_3)]) (S' := fun x6 => [.inl x6, .inl x5, .inr (.inr 122), .inl l4_2]) (σ' := fun x6 => (SH L0, D)) (fun _ _ => rfl) ?_
    obtain ⟨x7, hx, hb⟩ := bnd hb
    refine ev_call (e_X2_saved L0 d (by omega) hx) 1 (pc' := 53) (L' := [some (.inr (.inr 131)), some (.inr (.inr 7)), some (.inl p2), some (.inl x1), some (.inl l4_2), some (.inl l5_3)]) (S' := [.inl l4_2]) (fun _ _ => rfl) ?_
    cases hb
    exact ev_go 4 (pc' := 16) (L' := [some (.inr (.inr 131)), some (.inr (.inr 7)), some (.inl p2), some (.inl x1), some (.inl (w32 (l4_2 + x7))), some (.inl (w32 (l5_3 + 1)))]) (S' := []) (σ' := (SH L0, D)) (fun _ _ => rfl) hK0
  · refine ev_iff hc 1 (pc' := 62) (L' := [some (.inr (.inr 131)), some (.inr (.inr 7)), some (.inl p2), some (.inl x1), some (.inl l4_2), some (.inl l5_3)]) (S' := []) (σ' := (SH L0, D)) (fun _ _ => rfl) ?_
    cases hb
    exact hK0 (some (.inl l5_3))
set_option maxRecDepth 100000 in
set_option maxHeartbeats 4000000 in
theorem e_X0_savedBy_131_132 (L0 d : Nat) (hd : 3 ≤ d) {p2 : Int} {D : DT} {t0 : Int} (h : m_X0_savedBy 132 p2 D = some t0) : Ret mtab d 9 [.inr (.inr 131), .inr (.inr 132), .inl p2] (SH L0, D) (some (.inl t0), (SH L0, D)) := by
  obtain ⟨d, rfl⟩ : ∃ e, d = e + 1 := ⟨d - 1, by omega⟩
  refine Ret.of (code := k_X0_savedBy) (ml := 6) rfl ?_
  show EvF mtab d k_X0_savedBy 0 [some (.inr (.inr 131)), some (.inr (.inr 132)), some (.inl p2), none, none, none] [] (SH L0, D) (some (.inl t0), (SH L0, D))
  unfold m_X0_savedBy at h
  obtain ⟨x1, hx, h⟩ := bnd h
  refine ev_bind hx 5 (pc' := 9) (L' := fun x1 => [some (.inr (.inr 131)), some (.inr (.inr 132)), some (.inl p2), none, none, none]) (S' := fun x1 => [.inl x1]) (σ' := fun x1 => (SH L0, D)) (fun _ _ => rfl) ?_
  obtain ⟨r, hr, h⟩ := bnd h
  have hX : (fun (r : Int) => ∀ (o9 : Option (Sum Int Nat)), EvF mtab d k_X0_savedBy 62 [some (.inr (.inr 131)), some (.inr (.inr 132)), some (.inl p2), some (.inl x1), some (.inl r), dv o9] [] (SH L0, D) (some (.inl t0), (SH L0, D))) r := by
    obtain ⟨l4_8, hre⟩ : ∃ q, q = r := ⟨r, rfl⟩
    subst hre
    intro o9
    show EvF mtab d k_X0_savedBy 62 [some (.inr (.inr 131)), some (.inr (.inr 132)), some (.inl p2), some (.inl x1), some (.inl l4_8), dv o9] [] (SH L0, D) (some (.inl t0), (SH L0, D))
    cases h
    exact ev_ret 2 (fun _ _ => rfl)
  clear h
  refine ev_go 5 (pc' := 16) (L' := [some (.inr (.inr 131)), some (.inr (.inr 132)), some (.inl p2), some (.inl x1), some (.inl 0), some (.inl 1)]) (S' := []) (σ' := (SH L0, D)) (fun _ _ => rfl) ?_
  refine loop_ind (P := fun s => EvF mtab d k_X0_savedBy 16 [some (.inr (.inr 131)), some (.inr (.inr 132)), some (.inl p2), some (.inl x1), some (.inl s.1), some (.inl s.2)] [] (SH L0, D) (some (.inl t0), (SH L0, D))) (X := fun r => ∀ (o9 : Option (Sum Int Nat)), EvF mtab d k_X0_savedBy 62 [some (.inr (.inr 131)), some (.inr (.inr 132)), some (.inl p2), some (.inl x1), some (.inl r), dv o9] [] (SH L0, D) (some (.inl t0), (SH L0, D))) hr hX ?_
  clear hr hX
  intro s t hb hK0
  obtain ⟨l4_2, l5_3⟩ := s
  show EvF mtab d k_X0_savedBy 16 [some (.inr (.inr 131)), some (.inr (.inr 132)), some (.inl p2), some (.inl x1), some (.inl l4_2), some (.inl l5_3)] [] (SH L0, D) (some (.inl t0), (SH L0, D))
  unfold b_X0_savedBy_16 at hb
  obtain ⟨x4, hx, hb⟩ := bnd hb
  refine ev_bind hx 6 (pc' := 27) (L' := fun x4 => [some (.inr (.inr 131)), some (.inr (.inr 132)), some (.inl p2), some (.inl x1), some (.inl l4_2), some (.inl l5_3)]) (S' := fun x4 => [.inl x4, .inl l5_3]) (σ' := fun x4 => (SH L0, D)) (fun _ _ => rfl) ?_
  rcases ite_or hb with ⟨hc, hb⟩ | ⟨hc, hb⟩
  · refine ev_ift hc 1 (pc' := 30) (L' := [some (.inr (.inr 131)), some (.inr (.inr 132)), some (.inl p2), some (.inl x1), some (.inl l4_2), some (.inl l5_3)]) (S' := []) (σ' := (SH L0, D)) (fun _ _ => rfl) ?_
    obtain ⟨x5, hx, hb⟩ := bnd hb
    refine ev_bind hx 10 (pc' := 44) (L' := fun x5 => [some (.inr (.inr 131)), some (.inr (.inr 132)), some (.inl p2), some (.inl x1), some (.inl l4_2), some (.inl l5_3)]) (S' := fun x5 => [.inl x5, .inr (.inr 122), .inl l4_2]) (σ' := fun x5 => (SH L0, D)) (fun _ _ => rfl) ?_
    obtain ⟨x6, hx, hb⟩ := bnd hb
    refine ev_bind hx 5 (pc' := 50) (L' := fun x6 => [some (.inr (.inr 131)), some (.inr (.inr 132)), some (.inl p2), some (.inl x1), some (.inl l4_2), some (.inl l5_3)]) (S' := fun x6 => [.inl x6, .inl x5, .inr (.inr 122), .inl l4_2]) (σ' := fun x6 => (SH L0, D)) (fun _ _ => rfl) ?_
    obtain ⟨x7, hx, hb⟩ := bnd hb
    refine ev_call (e_X2_saved L0 d (by omega) hx) 1 (pc' := 53) (L' := [some (.inr (.inr 131)), some (.inr (.inr 132)), some (.inl p2), some (.inl x1), some (.inl l4_2), some (.inl l5_3)]) (S' := [.inl l4_2]) (fun _ _ => rfl) ?_
    cases hb
    exact ev_go 4 (pc' := 16) (L' := [some (.inr (.inr 131)), some (.inr (.inr 132)), some (.inl p2), some (.inl x1), some (.inl (w32 (l4_2 + x7))), some (.inl (w32 (l5_3 + 1)))]) (S' := []) (σ' := (SH L0, D)) (fun _ _ => rfl) hK0
  · refine ev_iff hc 1 (pc' := 62) (L' := [some (.inr (.inr 131)), some (.inr (.inr 132)), some (.inl p2), some (.inl x1), some (.inl l4_2), some (.inl l5_3)]) (S' := []) (σ' := (SH L0, D)) (fun _ _ => rfl) ?_
    cases hb
    exact hK0 (some (.inl l5_3))
set_option maxRecDepth 100000 in
set_option maxHeartbeats 4000000 in
theorem e_X0_keepNumbers (L0 d : Nat) (hd : 2 ≤ d) {p1 : Int} {D : DT} {t0 : DT} (h : m_X0_keepNumbers p1 D = some t0) : Ret mtab d 10 [.inr (.inr 131), .inl p1] (SH L0, D) (none, (SH L0, t0)) := by
  obtain ⟨d, rfl⟩ : ∃ e, d = e + 1 := ⟨d - 1, by omega⟩
  refine Ret.of (code := k_X0_keepNumbers) (ml := 4) rfl ?_
  show EvF mtab d k_X0_keepNumbers 0 [some (.inr (.inr 131)), some (.inl p1), none, none] [] (SH L0, D) (none, (SH L0, t0))
  unfold m_X0_keepNumbers at h
  obtain ⟨r, hr, h⟩ := bnd h
  have hX : (fun (r : DT) => ∀ (o9 : Option (Sum Int Nat)) (o10 : Option (Sum Int Nat)), EvF mtab d k_X0_keepNumbers 55 [some (.inr (.inr 131)), some (.inl p1), dv o9, dv o10] [] (SH L0, r) (none, (SH L0, t0))) r := by
    obtain ⟨D11, hre⟩ : ∃ q, q = r := ⟨r, rfl⟩
    subst hre
    intro o9 o10
    show EvF mtab d k_X0_keepNumbers 55 [some (.inr (.inr 131)), some (.inl p1), dv o9, dv o10] [] (SH L0, D11) (none, (SH L0, t0))
    obtain ⟨D12, hx, h⟩ := bnd h
    refine ev_bind hx 5 (pc' := 62) (L' := fun D12 => [some (.inr (.inr 131)), some (.inl p1), dv o9, dv o10]) (S' := fun D12 => []) (σ' := fun D12 => (SH L0, D12)) (fun _ _ => rfl) ?_
    cases h
    exact ev_ret 1 (fun _ _ => rfl)
  clear h
  refine ev_go 2 (pc' := 2) (L' := [some (.inr (.inr 131)), some (.inl p1), some (.inl 0), none]) (S' := []) (σ' := (SH L0, D)) (fun _ _ => rfl) ?_
  refine loop_ind (P := fun s => ∀ (o2 : Option (Sum Int Nat)), EvF mtab d k_X0_keepNumbers 2 [some (.inr (.inr 131)), some (.inl p1), some (.inl s.1), dv o2] [] (SH L0, s.2) (none, (SH L0, t0))) (X := fun r => ∀ (o9 : Option (Sum Int Nat)) (o10 : Option (Sum Int Nat)), EvF mtab d k_X0_keepNumbers 55 [some (.inr (.inr 131)), some (.inl p1), dv o9, dv o10] [] (SH L0, r) (none, (SH L0, t0))) hr hX ?_ none
  clear hr hX
  intro s t hb hK0
  obtain ⟨l2_1, D3⟩ := s
  intro o2
  show EvF mtab d k_X0_keepNumbers 2 [some (.inr (.inr 131)), some (.inl p1), some (.inl l2_1), dv o2] [] (SH L0, D3) (none, (SH L0, t0))
  unfold b_X0_keepNumbers_2 at hb
  obtain ⟨x4, hx, hb⟩ := bnd hb
  refine ev_bind hx 6 (pc' := 12) (L' := fun x4 => [some (.inr (.inr 131)), some (.inl p1), some (.inl l2_1), dv o2]) (S' := fun x4 => [.inl x4, .inl l2_1]) (σ' := fun x4 => (SH L0, D3)) (fun _ _ => rfl) ?_
  rcases ite_or hb with ⟨hc, hb⟩ | ⟨hc, hb⟩
  · refine ev_ift hc 1 (pc' := 15) (L' := [some (.inr (.inr 131)), some (.inl p1), some (.inl l2_1), dv o2]) (S' := []) (σ' := (SH L0, D3)) (fun _ _ => rfl) ?_
    obtain ⟨x5, hx, hb⟩ := bnd hb
    refine ev_call (e_X7_member_4 L0 d (by omega) hx) 5 (pc' := 24) (L' := [some (.inr (.inr 131)), some (.inl p1), some (.inl l2_1), dv o2]) (S' := []) (fun _ _ => rfl) ?_
    obtain ⟨x6, hx, hb⟩ := bnd hb
    refine ev_bind hx 8 (pc' := 38) (L' := fun x6 => [some (.inr (.inr 131)), some (.inl p1), some (.inl l2_1), some (.inl x5)]) (S' := fun x6 => [.inl x6, .inr (.inr 132)]) (σ' := fun x6 => (SH L0, D3)) (fun _ _ => rfl) ?_
    obtain ⟨D7, hx, hb⟩ := bnd hb
    refine ev_bind hx 4 (pc' := 42) (L' := fun D7 => [some (.inr (.inr 131)), some (.inl p1), some (.inl l2_1), some (.inl x5)]) (S' := fun D7 => []) (σ' := fun D7 => (SH L0, D7)) (fun _ _ => rfl) ?_
    obtain ⟨D8, hx, hb⟩ := bnd hb
    refine ev_bind hx 5 (pc' := 49) (L' := fun D8 => [some (.inr (.inr 131)), some (.inl p1), some (.inl l2_1), some (.inl x5)]) (S' := fun D8 => []) (σ' := fun D8 => (SH L0, D8)) (fun _ _ => rfl) ?_
    cases hb
    exact ev_go 2 (pc' := 2) (L' := [some (.inr (.inr 131)), some (.inl p1), some (.inl (w32 (l2_1 + 1))), some (.inl x5)]) (S' := []) (σ' := (SH L0, D8)) (fun _ _ => rfl) (hK0 (some (.inl x5)))
  · refine ev_iff hc 1 (pc' := 55) (L' := [some (.inr (.inr 131)), some (.inl p1), some (.inl l2_1), dv o2]) (S' := []) (σ' := (SH L0, D3)) (fun _ _ => rfl) ?_
    cases hb
    exact hK0 (some (.inl l2_1)) o2
set_option maxRecDepth 100000 in
set_option maxHeartbeats 4000000 in
theorem e_X0_warm (L0 d : Nat) (hd : 2 ≤ d) {p1 p2 : Int} {D : DT} {t0 : DT} (h : m_X0_warm p1 p2 D = some t0) : Ret mtab d 12 [.inr (.inr 131), .inl p1, .inl p2] (SH L0, D) (none, (SH L0, t0)) := by
  obtain ⟨d, rfl⟩ : ∃ e, d = e + 1 := ⟨d - 1, by omega⟩
  refine Ret.of (code := k_X0_warm) (ml := 5) rfl ?_
  show EvF mtab d k_X0_warm 0 [some (.inr (.inr 131)), some (.inl p1), some (.inl p2), none, none] [] (SH L0, D) (none, (SH L0, t0))
  unfold m_X0_warm at h
  obtain ⟨r, hr, h⟩ := bnd h
  have hX : (fun (r : DT) => ∀ (o10 : Option (Sum Int Nat)) (o11 : Option (Sum Int Nat)), EvF mtab d k_X0_warm 51 [some (.inr (.inr 131)), some (.inl p1), some (.inl p2), dv o10, dv o11] [] (SH L0, r) (none, (SH L0, t0))) r := by
    obtain ⟨D12, hre⟩ : ∃ q, q = r := ⟨r, rfl⟩
    subst hre
    intro o10 o11
    show EvF mtab d k_X0_warm 51 [some (.inr (.inr 131)), some (.inl p1), some (.inl p2), dv o10, dv o11] [] (SH L0, D12) (none, (SH L0, t0))
    cases h
    exact ev_ret 1 (fun _ _ => rfl)
  clear h
  refine ev_go 2 (pc' := 2) (L' := [some (.inr (.inr 131)), some (.inl p1), some (.inl p2), some (.inl 0), none]) (S' := []) (σ' := (SH L0, D)) (fun _ _ => rfl) ?_
  refine loop_ind (P := fun s => ∀ (o2 : Option (Sum Int Nat)), EvF mtab d k_X0_warm 2 [some (.inr (.inr 131)), some (.inl p1), some (.inl p2), some (.inl s.1), dv o2] [] (SH L0, s.2) (none, (SH L0, t0))) (X := fun r => ∀ (o10 : Option (Sum Int Nat)) (o11 : Option (Sum Int Nat)), EvF mtab d k_X0_warm 51 [some (.inr (.inr 131)), some (.inl p1), some (.inl p2), dv o10, dv o11] [] (SH L0, r) (none, (SH L0, t0))) hr hX ?_ none
  clear hr hX
  intro s t hb hK0
  obtain ⟨l3_1, D3⟩ := s
  intro o2
  show EvF mtab d k_X0_warm 2 [some (.inr (.inr 131)), some (.inl p1), some (.inl p2), some (.inl l3_1), dv o2] [] (SH L0, D3) (none, (SH L0, t0))
  unfold b_X0_warm_2 at hb
  obtain ⟨x4, hx, hb⟩ := bnd hb
  refine ev_bind hx 6 (pc' := 12) (L' := fun x4 => [some (.inr (.inr 131)), some (.inl p1), some (.inl p2), some (.inl l3_1), dv o2]) (S' := fun x4 => [.inl x4, .inl l3_1]) (σ' := fun x4 => (SH L0, D3)) (fun _ _ => rfl) ?_
  rcases ite_or hb with ⟨hc, hb⟩ | ⟨hc, hb⟩
  · refine ev_ift hc 1 (pc' := 15) (L' := [some (.inr (.inr 131)), some (.inl p1), some (.inl p2), some (.inl l3_1), dv o2]) (S' := []) (σ' := (SH L0, D3)) (fun _ _ => rfl) ?_
    obtain ⟨x5, hx, hb⟩ := bnd hb
    refine ev_call (e_X7_member_4 L0 d (by omega) hx) 5 (pc' := 24) (L' := [some (.inr (.inr 131)), some (.inl p1), some (.inl p2), some (.inl l3_1), dv o2]) (S' := []) (fun _ _ => rfl) ?_
    obtain ⟨x6, hx, hb⟩ := bnd hb
    refine ev_bind hx 5 (pc' := 33) (L' := fun x6 => [some (.inr (.inr 131)), some (.inl p1), some (.inl p2), some (.inl l3_1), some (.inl x5)]) (S' := fun x6 => [.inl x6]) (σ' := fun x6 => (SH L0, D3)) (fun _ _ => rfl) ?_
    obtain ⟨D9, hv, hb⟩ := bnd hb
    have hJ : EvF mtab d k_X0_warm 45 [some (.inr (.inr 131)), some (.inl p1), some (.inl p2), some (.inl l3_1), some (.inl x5)] [] (SH L0, D9) (none, (SH L0, t0)) := by
      cases hb
      exact ev_go 2 (pc' := 2) (L' := [some (.inr (.inr 131)), some (.inl p1), some (.inl p2), some (.inl (w32 (l3_1 + 1))), some (.inl x5)]) (S' := []) (σ' := (SH L0, D9)) (fun _ _ => rfl) (hK0 (some (.inl x5)))
    clear hb
    rcases ite_or hv with ⟨hc, hv⟩ | ⟨hc, hv⟩
    · refine ev_ift hc 2 (pc' := 37) (L' := [some (.inr (.inr 131)), some (.inl p1), some (.inl p2), some (.inl l3_1), some (.inl x5)]) (S' := []) (σ' := (SH L0, D3)) (fun _ _ => rfl) ?_
      obtain ⟨x7, hx, hv⟩ := bnd hv
      obtain ⟨D8, hy, hv⟩ := bnd hv
      refine ev_bind2 (Y := fun x7 => awr D3 134 40 x5 x7) hx hy 5 (pc' := 45) (L' := fun x7 D8 => [some (.inr (.inr 131)), some (.inl p1), some (.inl p2), some (.inl l3_1), some (.inl x5)]) (S' := fun x7 D8 => []) (σ' := fun x7 D8 => (SH L0, D8)) (fun _ _ => rfl) ?_
      have he0 := Option.some.inj hv
      subst he0
      exact hJ
    · refine ev_iff hc 2 (pc' := 45) (L' := [some (.inr (.inr 131)), some (.inl p1), some (.inl p2), some (.inl l3_1), some (.inl x5)]) (S' := []) (σ' := (SH L0, D3)) (fun _ _ => rfl) ?_
      have he0 := Option.some.inj hv
      subst he0
      exact hJ
  · refine ev_iff hc 1 (pc' := 51) (L' := [some (.inr (.inr 131)), some (.inl p1), some (.inl p2), some (.inl l3_1), dv o2]) (S' := []) (σ' := (SH L0, D3)) (fun _ _ => rfl) ?_
    cases hb
    exact hK0 (some (.inl l3_1)) o2
set_option maxRecDepth 100000 in
set_option maxHeartbeats 4000000 in
theorem e_X0_markCold (L0 d : Nat) (hd : 3 ≤ d) {p1 : Int} {D : DT} {t0 : DT} (h : m_X0_markCold p1 D = some t0) : Ret mtab d 11 [.inr (.inr 131), .inl p1] (SH L0, D) (none, (SH L0, t0)) := by
  obtain ⟨d, rfl⟩ : ∃ e, d = e + 1 := ⟨d - 1, by omega⟩
  refine Ret.of (code := k_X0_markCold) (ml := 5) rfl ?_
  show EvF mtab d k_X0_markCold 0 [some (.inr (.inr 131)), some (.inl p1), none, none, none] [] (SH L0, D) (none, (SH L0, t0))
  unfold m_X0_markCold at h
  obtain ⟨x1, hx, h⟩ := bnd h
  refine ev_bind hx 5 (pc' := 9) (L' := fun x1 => [some (.inr (.inr 131)), some (.inl p1), none, none, none]) (S' := fun x1 => [.inl x1]) (σ' := fun x1 => (SH L0, D)) (fun _ _ => rfl) ?_
  obtain ⟨r, hr, h⟩ := bnd h
  have hX : (fun (r : DT) => ∀ (o10 : Option (Sum Int Nat)) (o11 : Option (Sum Int Nat)), EvF mtab d k_X0_markCold 56 [some (.inr (.inr 131)), some (.inl p1), some (.inl x1), dv o10, dv o11] [] (SH L0, r) (none, (SH L0, t0))) r := by
    obtain ⟨D12, hre⟩ : ∃ q, q = r := ⟨r, rfl⟩
    subst hre
    intro o10 o11
    show EvF mtab d k_X0_markCold 56 [some (.inr (.inr 131)), some (.inl p1), some (.inl x1), dv o10, dv o11] [] (SH L0, D12) (none, (SH L0, t0))
    obtain ⟨r, hr, h⟩ := bnd h
    have hX : (fun (r : DT) => ∀ (o21 : Option (Sum Int Nat)) (o22 : Option (Sum Int Nat)), EvF mtab d k_X0_markCold 112 [some (.inr (.inr 131)), some (.inl p1), some (.inl x1), dv o21, dv o22] [] (SH L0, r) (none, (SH L0, t0))) r := by
      obtain ⟨D23, hre⟩ : ∃ q, q = r := ⟨r, rfl⟩
      subst hre
      intro o21 o22
      show EvF mtab d k_X0_markCold 112 [some (.inr (.inr 131)), some (.inl p1), some (.inl x1), dv o21, dv o22] [] (SH L0, D23) (none, (SH L0, t0))
      cases h
      exact ev_ret 1 (fun _ _ => rfl)
    clear h
    refine ev_go 2 (pc' := 58) (L' := [some (.inr (.inr 131)), some (.inl p1), some (.inl x1), some (.inl 0), dv o11]) (S' := []) (σ' := (SH L0, D12)) (fun _ _ => rfl) ?_
    refine loop_ind (P := fun s => ∀ (o14 : Option (Sum Int Nat)), EvF mtab d k_X0_markCold 58 [some (.inr (.inr 131)), some (.inl p1), some (.inl x1), some (.inl s.1), dv o14] [] (SH L0, s.2) (none, (SH L0, t0))) (X := fun r => ∀ (o21 : Option (Sum Int Nat)) (o22 : Option (Sum Int Nat)), EvF mtab d k_X0_markCold 112 [some (.inr (.inr 131)), some (.inl p1), some (.inl x1), dv o21, dv o22] [] (SH L0, r) (none, (SH L0, t0))) hr hX ?_ o11
    clear hr hX
    intro s t hb hK0
    obtain ⟨l3_13, D15⟩ := s
    intro o14
    show EvF mtab d k_X0_markCold 58 [some (.inr (.inr 131)), some (.inl p1), some (.inl x1), some (.inl l3_13), dv o14] [] (SH L0, D15) (none, (SH L0, t0))
    unfold b_X0_markCold_58 at hb
    rcases ite_or hb with ⟨hc, hb⟩ | ⟨hc, hb⟩
    · refine ev_ift hc 3 (pc' := 63) (L' := [some (.inr (.inr 131)), some (.inl p1), some (.inl x1), some (.inl l3_13), dv o14]) (S' := []) (σ' := (SH L0, D15)) (fun _ _ => rfl) ?_
      obtain ⟨x16, hx, hb⟩ := bnd hb
      refine ev_call (e_X7_member_4 L0 d (by omega) hx) 5 (pc' := 72) (L' := [some (.inr (.inr 131)), some (.inl p1), some (.inl x1), some (.inl l3_13), dv o14]) (S' := []) (fun _ _ => rfl) ?_
      obtain ⟨x17, hx, hb⟩ := bnd hb
      refine ev_bind hx 6 (pc' := 84) (L' := fun x17 => [some (.inr (.inr 131)), some (.inl p1), some (.inl x1), some (.inl l3_13), some (.inl x16)]) (S' := fun x17 => [.inl x17]) (σ' := fun x17 => (SH L0, D15)) (fun _ _ => rfl) ?_
      obtain ⟨D20, hv, hb⟩ := bnd hb
      have hJ : EvF mtab d k_X0_markCold 106 [some (.inr (.inr 131)), some (.inl p1), some (.inl x1), some (.inl l3_13), some (.inl x16)] [] (SH L0, D20) (none, (SH L0, t0)) := by
        cases hb
        exact ev_go 2 (pc' := 58) (L' := [some (.inr (.inr 131)), some (.inl p1), some (.inl x1), some (.inl (w32 (l3_13 + 1))), some (.inl x16)]) (S' := []) (σ' := (SH L0, D20)) (fun _ _ => rfl) (hK0 (some (.inl x16)))
      clear hb
      rcases ite_or hv with ⟨hc, hv⟩ | ⟨hc, hv⟩
      · refine ev_ift hc 4 (pc' := 94) (L' := [some (.inr (.inr 131)), some (.inl p1), some (.inl x1), some (.inl l3_13), some (.inl x16)]) (S' := []) (σ' := (SH L0, D15)) (fun _ _ => rfl) ?_
        obtain ⟨x18, hx, hv⟩ := bnd hv
        refine ev_bind hx 6 (pc' := 103) (L' := fun x18 => [some (.inr (.inr 131)), some (.inl p1), some (.inl x1), some (.inl l3_13), some (.inl x16)]) (S' := fun x18 => [.inl x18, .inl p1, .inr (.inr 131)]) (σ' := fun x18 => (SH L0, D15)) (fun _ _ => rfl) ?_
        obtain ⟨D19, hx, hv⟩ := bnd hv
        refine ev_call (e_X0_warm L0 d (by omega) hx) 1 (pc' := 106) (L' := [some (.inr (.inr 131)), some (.inl p1), some (.inl x1), some (.inl l3_13), some (.inl x16)]) (S' := []) (fun _ _ => rfl) ?_
        have he0 := Option.some.inj hv
        subst he0
        exact hJ
      · refine ev_iff hc 4 (pc' := 106) (L' := [some (.inr (.inr 131)), some (.inl p1), some (.inl x1), some (.inl l3_13), some (.inl x16)]) (S' := []) (σ' := (SH L0, D15)) (fun _ _ => rfl) ?_
        have he0 := Option.some.inj hv
        subst he0
        exact hJ
    · refine ev_iff hc 3 (pc' := 112) (L' := [some (.inr (.inr 131)), some (.inl p1), some (.inl x1), some (.inl l3_13), dv o14]) (S' := []) (σ' := (SH L0, D15)) (fun _ _ => rfl) ?_
      cases hb
      exact hK0 (some (.inl l3_13)) o14
  clear h
  refine ev_go 3 (pc' := 12) (L' := [some (.inr (.inr 131)), some (.inl p1), some (.inl x1), some (.inl 0), none]) (S' := []) (σ' := (SH L0, D)) (fun _ _ => rfl) ?_
  refine loop_ind (P := fun s => ∀ (o3 : Option (Sum Int Nat)), EvF mtab d k_X0_markCold 12 [some (.inr (.inr 131)), some (.inl p1), some (.inl x1), some (.inl s.1), dv o3] [] (SH L0, s.2) (none, (SH L0, t0))) (X := fun r => ∀ (o10 : Option (Sum Int Nat)) (o11 : Option (Sum Int Nat)), EvF mtab d k_X0_markCold 56 [some (.inr (.inr 131)), some (.inl p1), some (.inl x1), dv o10, dv o11] [] (SH L0, r) (none, (SH L0, t0))) hr hX ?_ none
  clear hr hX
  intro s t hb hK0
  obtain ⟨l3_2, D4⟩ := s
  intro o3
  show EvF mtab d k_X0_markCold 12 [some (.inr (.inr 131)), some (.inl p1), some (.inl x1), some (.inl l3_2), dv o3] [] (SH L0, D4) (none, (SH L0, t0))
  unfold b_X0_markCold_12 at hb
  rcases ite_or hb with ⟨hc, hb⟩ | ⟨hc, hb⟩
  · refine ev_ift hc 3 (pc' := 17) (L' := [some (.inr (.inr 131)), some (.inl p1), some (.inl x1), some (.inl l3_2), dv o3]) (S' := []) (σ' := (SH L0, D4)) (fun _ _ => rfl) ?_
    obtain ⟨x5, hx, hb⟩ := bnd hb
    refine ev_call (e_X7_member_4 L0 d (by omega) hx) 5 (pc' := 26) (L' := [some (.inr (.inr 131)), some (.inl p1), some (.inl x1), some (.inl l3_2), dv o3]) (S' := []) (fun _ _ => rfl) ?_
    obtain ⟨x6, hx, hb⟩ := bnd hb
    refine ev_bind hx 8 (pc' := 41) (L' := fun x6 => [some (.inr (.inr 131)), some (.inl p1), some (.inl x1), some (.inl l3_2), some (.inl x5)]) (S' := fun x6 => [.inl x6, .inl x5, .inr (.inr 134)]) (σ' := fun x6 => (SH L0, D4)) (fun _ _ => rfl) ?_
    obtain ⟨t7, hv, hb⟩ := bnd hb
    have hJ : EvF mtab d k_X0_markCold 49 [some (.inr (.inr 131)), some (.inl p1), some (.inl x1), some (.inl l3_2), some (.inl x5)] [.inl t7, .inl x5, .inr (.inr 134)] (SH L0, D4) (none, (SH L0, t0)) := by
      obtain ⟨x8, hx, hb⟩ := bnd hb
      obtain ⟨D9, hy, hb⟩ := bnd hb
      refine ev_bind2 (Y := fun x8 => awr D4 134 40 x5 x8) hx hy 1 (pc' := 50) (L' := fun x8 D9 => [some (.inr (.inr 131)), some (.inl p1), some (.inl x1), some (.inl l3_2), some (.inl x5)]) (S' := fun x8 D9 => []) (σ' := fun x8 D9 => (SH L0, D9)) (fun _ _ => rfl) ?_
      cases hb
      exact ev_go 2 (pc' := 12) (L' := [some (.inr (.inr 131)), some (.inl p1), some (.inl x1), some (.inl (w32 (l3_2 + 1))), some (.inl x5)]) (S' := []) (σ' := (SH L0, D9)) (fun _ _ => rfl) (hK0 (some (.inl x5)))
    clear hb
    rcases ite_or hv with ⟨hc, hv⟩ | ⟨hc, hv⟩
    · refine ev_ift hc 1 (pc' := 44) (L' := [some (.inr (.inr 131)), some (.inl p1), some (.inl x1), some (.inl l3_2), some (.inl x5)]) (S' := [.inl x5, .inr (.inr 134)]) (σ' := (SH L0, D4)) (fun _ _ => rfl) ?_
      have he0 := Option.some.inj hv
      subst he0
      exact ev_go 2 (pc' := 49) (L' := [some (.inr (.inr 131)), some (.inl p1), some (.inl x1), some (.inl l3_2), some (.inl x5)]) (S' := [.inl 1, .inl x5, .inr (.inr 134)]) (σ' := (SH L0, D4)) (fun _ _ => rfl) hJ
    · refine ev_iff hc 1 (pc' := 48) (L' := [some (.inr (.inr 131)), some (.inl p1), some (.inl x1), some (.inl l3_2), some (.inl x5)]) (S' := [.inl x5, .inr (.inr 134)]) (σ' := (SH L0, D4)) (fun _ _ => rfl) ?_
      have he0 := Option.some.inj hv
      subst he0
      exact ev_go 1 (pc' := 49) (L' := [some (.inr (.inr 131)), some (.inl p1), some (.inl x1), some (.inl l3_2), some (.inl x5)]) (S' := [.inl 0, .inl x5, .inr (.inr 134)]) (σ' := (SH L0, D4)) (fun _ _ => rfl) hJ
  · refine ev_iff hc 3 (pc' := 56) (L' := [some (.inr (.inr 131)), some (.inl p1), some (.inl x1), some (.inl l3_2), dv o3]) (S' := []) (σ' := (SH L0, D4)) (fun _ _ => rfl) ?_
    cases hb
    exact hK0 (some (.inl l3_2)) o3
set_option maxRecDepth 100000 in
set_option maxHeartbeats 4000000 in
theorem e_X11_sortDown_126_15 (L0 d : Nat) (hd : 1 ≤ d) {p1 : Int} {D : DT} {t0 : DT} (h : m_X11_sortDown 126 p1 15 D = some t0) : Ret mtab d 162 [.inr (.inr 126), .inl p1, .inr (.inr 15)] (SH L0, D) (none, (SH L0, t0)) := by
  obtain ⟨d, rfl⟩ : ∃ e, d = e + 1 := ⟨d - 1, by omega⟩
  refine Ret.of (code := k_X11_sortDown) (ml := 6) rfl ?_
  show EvF mtab d k_X11_sortDown 0 [some (.inr (.inr 126)), some (.inl p1), some (.inr (.inr 15)), none, none, none] [] (SH L0, D) (none, (SH L0, t0))
  unfold m_X11_sortDown at h
  obtain ⟨r, hr, h⟩ := bnd h
  have hX : (fun (r : DT) => ∀ (o16 : Option (Sum Int Nat)) (o17 : Option (Sum Int Nat)) (o18 : Option (Sum Int Nat)), EvF mtab d k_X11_sortDown 63 [some (.inr (.inr 126)), some (.inl p1), some (.inr (.inr 15)), dv o16, dv o17, dv o18] [] (SH L0, r) (none, (SH L0, t0))) r := by
    obtain ⟨D19, hre⟩ : ∃ q, q = r := ⟨r, rfl⟩
    subst hre
    intro o16 o17 o18
    show EvF mtab d k_X11_sortDown 63 [some (.inr (.inr 126)), some (.inl p1), some (.inr (.inr 15)), dv o16, dv o17, dv o18] [] (SH L0, D19) (none, (SH L0, t0))
    cases h
    exact ev_ret 1 (fun _ _ => rfl)
  clear h
  refine ev_go 2 (pc' := 2) (L' := [some (.inr (.inr 126)), some (.inl p1), some (.inr (.inr 15)), some (.inl 1), none, none]) (S' := []) (σ' := (SH L0, D)) (fun _ _ => rfl) ?_
  refine loop_ind (P := fun s => ∀ (o2 : Option (Sum Int Nat)) (o3 : Option (Sum Int Nat)), EvF mtab d k_X11_sortDown 2 [some (.inr (.inr 126)), some (.inl p1), some (.inr (.inr 15)), some (.inl s.1), dv o2, dv o3] [] (SH L0, s.2) (none, (SH L0, t0))) (X := fun r => ∀ (o16 : Option (Sum Int Nat)) (o17 : Option (Sum Int Nat)) (o18 : Option (Sum Int Nat)), EvF mtab d k_X11_sortDown 63 [some (.inr (.inr 126)), some (.inl p1), some (.inr (.inr 15)), dv o16, dv o17, dv o18] [] (SH L0, r) (none, (SH L0, t0))) hr hX ?_ none none
  clear hr hX
  intro s t hb hK0
  obtain ⟨l3_1, D4⟩ := s
  intro o2 o3
  show EvF mtab d k_X11_sortDown 2 [some (.inr (.inr 126)), some (.inl p1), some (.inr (.inr 15)), some (.inl l3_1), dv o2, dv o3] [] (SH L0, D4) (none, (SH L0, t0))
  unfold b_X11_sortDown_2 at hb
  rcases ite_or hb with ⟨hc, hb⟩ | ⟨hc, hb⟩
  · refine ev_ift hc 3 (pc' := 7) (L' := [some (.inr (.inr 126)), some (.inl p1), some (.inr (.inr 15)), some (.inl l3_1), dv o2, dv o3]) (S' := []) (σ' := (SH L0, D4)) (fun _ _ => rfl) ?_
    obtain ⟨x5, hx, hb⟩ := bnd hb
    refine ev_bind hx 3 (pc' := 10) (L' := fun x5 => [some (.inr (.inr 126)), some (.inl p1), some (.inr (.inr 15)), some (.inl l3_1), dv o2, dv o3]) (S' := fun x5 => [.inl x5]) (σ' := fun x5 => (SH L0, D4)) (fun _ _ => rfl) ?_
    obtain ⟨r, hr, hb⟩ := bnd hb
    have hX : (fun (r : (Int × DT)) => EvF mtab d k_X11_sortDown 51 [some (.inr (.inr 126)), some (.inl p1), some (.inr (.inr 15)), some (.inl l3_1), some (.inl x5), some (.inl r.1)] [] (SH L0, r.2) (none, (SH L0, t0))) r := by
      obtain ⟨l5_13, D14⟩ := r
      show EvF mtab d k_X11_sortDown 51 [some (.inr (.inr 126)), some (.inl p1), some (.inr (.inr 15)), some (.inl l3_1), some (.inl x5), some (.inl l5_13)] [] (SH L0, D14) (none, (SH L0, t0))
      obtain ⟨D15, hx, hb⟩ := bnd hb
      refine ev_bind hx 4 (pc' := 57) (L' := fun D15 => [some (.inr (.inr 126)), some (.inl p1), some (.inr (.inr 15)), some (.inl l3_1), some (.inl x5), some (.inl l5_13)]) (S' := fun D15 => []) (σ' := fun D15 => (SH L0, D15)) (fun _ _ => rfl) ?_
      cases hb
      exact ev_go 2 (pc' := 2) (L' := [some (.inr (.inr 126)), some (.inl p1), some (.inr (.inr 15)), some (.inl (w32 (l3_1 + 1))), some (.inl x5), some (.inl l5_13)]) (S' := []) (σ' := (SH L0, D15)) (fun _ _ => rfl) (hK0 (some (.inl x5)) (some (.inl l5_13)))
    clear hb
    refine ev_go 3 (pc' := 15) (L' := [some (.inr (.inr 126)), some (.inl p1), some (.inr (.inr 15)), some (.inl l3_1), some (.inl x5), some (.inl l3_1)]) (S' := []) (σ' := (SH L0, D4)) (fun _ _ => rfl) ?_
    refine loop_ind (P := fun s => EvF mtab d k_X11_sortDown 15 [some (.inr (.inr 126)), some (.inl p1), some (.inr (.inr 15)), some (.inl l3_1), some (.inl x5), some (.inl s.1)] [] (SH L0, s.2) (none, (SH L0, t0))) (X := fun r => EvF mtab d k_X11_sortDown 51 [some (.inr (.inr 126)), some (.inl p1), some (.inr (.inr 15)), some (.inl l3_1), some (.inl x5), some (.inl r.1)] [] (SH L0, r.2) (none, (SH L0, t0))) hr hX ?_
    clear hr hX
    intro s t hb hK1
    obtain ⟨l5_6, D7⟩ := s
    show EvF mtab d k_X11_sortDown 15 [some (.inr (.inr 126)), some (.inl p1), some (.inr (.inr 15)), some (.inl l3_1), some (.inl x5), some (.inl l5_6)] [] (SH L0, D7) (none, (SH L0, t0))
    unfold b_X11_sortDown_15 at hb
    rcases ite_or hb with ⟨hc, hb⟩ | ⟨hc, hb⟩
    · refine ev_ift hc 2 (pc' := 20) (L' := [some (.inr (.inr 126)), some (.inl p1), some (.inr (.inr 15)), some (.inl l3_1), some (.inl x5), some (.inl l5_6)]) (S' := []) (σ' := (SH L0, D7)) (fun _ _ => rfl) ?_
      obtain ⟨x8, hx, hb⟩ := bnd hb
      refine ev_bind hx 6 (pc' := 27) (L' := fun x8 => [some (.inr (.inr 126)), some (.inl p1), some (.inr (.inr 15)), some (.inl l3_1), some (.inl x5), some (.inl l5_6)]) (S' := fun x8 => [.inl x8, .inr (.inr 15)]) (σ' := fun x8 => (SH L0, D7)) (fun _ _ => rfl) ?_
      obtain ⟨x9, hx, hb⟩ := bnd hb
      refine ev_bind hx 1 (pc' := 28) (L' := fun x9 => [some (.inr (.inr 126)), some (.inl p1), some (.inr (.inr 15)), some (.inl l3_1), some (.inl x5), some (.inl l5_6)]) (S' := fun x9 => [.inl x9]) (σ' := fun x9 => (SH L0, D7)) (fun _ _ => rfl) ?_
      obtain ⟨x10, hx, hb⟩ := bnd hb
      refine ev_bind hx 3 (pc' := 32) (L' := fun x10 => [some (.inr (.inr 126)), some (.inl p1), some (.inr (.inr 15)), some (.inl l3_1), some (.inl x5), some (.inl l5_6)]) (S' := fun x10 => [.inl x10, .inl x9]) (σ' := fun x10 => (SH L0, D7)) (fun _ _ => rfl) ?_
      rcases ite_or hb with ⟨hc, hb⟩ | ⟨hc, hb⟩
      · refine ev_ift hc 1 (pc' := 35) (L' := [some (.inr (.inr 126)), some (.inl p1), some (.inr (.inr 15)), some (.inl l3_1), some (.inl x5), some (.inl l5_6)]) (S' := []) (σ' := (SH L0, D7)) (fun _ _ => rfl) ?_
        obtain ⟨x11, hx, hb⟩ := bnd hb
        refine ev_bind hx 7 (pc' := 44) (L' := fun x11 => [some (.inr (.inr 126)), some (.inl p1), some (.inr (.inr 15)), some (.inl l3_1), some (.inl x5), some (.inl l5_6)]) (S' := fun x11 => [.inl x11, .inl l5_6, .inr (.inr 126)]) (σ' := fun x11 => (SH L0, D7)) (fun _ _ => rfl) ?_
        obtain ⟨D12, hx, hb⟩ := bnd hb
        refine ev_bind hx 1 (pc' := 45) (L' := fun D12 => [some (.inr (.inr 126)), some (.inl p1), some (.inr (.inr 15)), some (.inl l3_1), some (.inl x5), some (.inl l5_6)]) (S' := fun D12 => []) (σ' := fun D12 => (SH L0, D12)) (fun _ _ => rfl) ?_
        cases hb
        exact ev_go 2 (pc' := 15) (L' := [some (.inr (.inr 126)), some (.inl p1), some (.inr (.inr 15)), some (.inl l3_1), some (.inl x5), some (.inl (w32 (l5_6 + (-1))))]) (S' := []) (σ' := (SH L0, D12)) (fun _ _ => rfl) hK1
      · refine ev_iff hc 1 (pc' := 51) (L' := [some (.inr (.inr 126)), some (.inl p1), some (.inr (.inr 15)), some (.inl l3_1), some (.inl x5), some (.inl l5_6)]) (S' := []) (σ' := (SH L0, D7)) (fun _ _ => rfl) ?_
        cases hb
        exact hK1
    · refine ev_iff hc 2 (pc' := 51) (L' := [some (.inr (.inr 126)), some (.inl p1), some (.inr (.inr 15)), some (.inl l3_1), some (.inl x5), some (.inl l5_6)]) (S' := []) (σ' := (SH L0, D7)) (fun _ _ => rfl) ?_
      cases hb
      exact hK1
  · refine ev_iff hc 3 (pc' := 63) (L' := [some (.inr (.inr 126)), some (.inl p1), some (.inr (.inr 15)), some (.inl l3_1), dv o2, dv o3]) (S' := []) (σ' := (SH L0, D4)) (fun _ _ => rfl) ?_
    cases hb
    exact hK0 (some (.inl l3_1)) o2 o3
set_option maxRecDepth 100000 in
set_option maxHeartbeats 4000000 in
theorem e_X11_sortDown_136_123 (L0 d : Nat) (hd : 1 ≤ d) {p1 : Int} {D : DT} {t0 : DT} (h : m_X11_sortDown 136 p1 123 D = some t0) : Ret mtab d 162 [.inr (.inr 136), .inl p1, .inr (.inr 123)] (SH L0, D) (none, (SH L0, t0)) := by
  obtain ⟨d, rfl⟩ : ∃ e, d = e + 1 := ⟨d - 1, by omega⟩
  refine Ret.of (code := k_X11_sortDown) (ml := 6) rfl ?_
  show EvF mtab d k_X11_sortDown 0 [some (.inr (.inr 136)), some (.inl p1), some (.inr (.inr 123)), none, none, none] [] (SH L0, D) (none, (SH L0, t0))
  unfold m_X11_sortDown at h
  obtain ⟨r, hr, h⟩ := bnd h
  have hX : (fun (r : DT) => ∀ (o16 : Option (Sum Int Nat)) (o17 : Option (Sum Int Nat)) (o18 : Option (Sum Int Nat)), EvF mtab d k_X11_sortDown 63 [some (.inr (.inr 136)), some (.inl p1), some (.inr (.inr 123)), dv o16, dv o17, dv o18] [] (SH L0, r) (none, (SH L0, t0))) r := by
    obtain ⟨D19, hre⟩ : ∃ q, q = r := ⟨r, rfl⟩
    subst hre
    intro o16 o17 o18
    show EvF mtab d k_X11_sortDown 63 [some (.inr (.inr 136)), some (.inl p1), some (.inr (.inr 123)), dv o16, dv o17, dv o18] [] (SH L0, D19) (none, (SH L0, t0))
    cases h
    exact ev_ret 1 (fun _ _ => rfl)
  clear h
  refine ev_go 2 (pc' := 2) (L' := [some (.inr (.inr 136)), some (.inl p1), some (.inr (.inr 123)), some (.inl 1), none, none]) (S' := []) (σ' := (SH L0, D)) (fun _ _ => rfl) ?_
  refine loop_ind (P := fun s => ∀ (o2 : Option (Sum Int Nat)) (o3 : Option (Sum Int Nat)), EvF mtab d k_X11_sortDown 2 [some (.inr (.inr 136)), some (.inl p1), some (.inr (.inr 123)), some (.inl s.1), dv o2, dv o3] [] (SH L0, s.2) (none, (SH L0, t0))) (X := fun r => ∀ (o16 : Option (Sum Int Nat)) (o17 : Option (Sum Int Nat)) (o18 : Option (Sum Int Nat)), EvF mtab d k_X11_sortDown 63 [some (.inr (.inr 136)), some (.inl p1), some (.inr (.inr 123)), dv o16, dv o17, dv o18] [] (SH L0, r) (none, (SH L0, t0))) hr hX ?_ none none
  clear hr hX
  intro s t hb hK0
  obtain ⟨l3_1, D4⟩ := s
  intro o2 o3
  show EvF mtab d k_X11_sortDown 2 [some (.inr (.inr 136)), some (.inl p1), some (.inr (.inr 123)), some (.inl l3_1), dv o2, dv o3] [] (SH L0, D4) (none, (SH L0, t0))
  unfold b_X11_sortDown_2 at hb
  rcases ite_or hb with ⟨hc, hb⟩ | ⟨hc, hb⟩
  · refine ev_ift hc 3 (pc' := 7) (L' := [some (.inr (.inr 136)), some (.inl p1), some (.inr (.inr 123)), some (.inl l3_1), dv o2, dv o3]) (S' := []) (σ' := (SH L0, D4)) (fun _ _ => rfl) ?_
    obtain ⟨x5, hx, hb⟩ := bnd hb
    refine ev_bind hx 3 (pc' := 10) (L' := fun x5 => [some (.inr (.inr 136)), some (.inl p1), some (.inr (.inr 123)), some (.inl l3_1), dv o2, dv o3]) (S' := fun x5 => [.inl x5]) (σ' := fun x5 => (SH L0, D4)) (fun _ _ => rfl) ?_
    obtain ⟨r, hr, hb⟩ := bnd hb
    have hX : (fun (r : (Int × DT)) => EvF mtab d k_X11_sortDown 51 [some (.inr (.inr 136)), some (.inl p1), some (.inr (.inr 123)), some (.inl l3_1), some (.inl x5), some (.inl r.1)] [] (SH L0, r.2) (none, (SH L0, t0))) r := by
      obtain ⟨l5_13, D14⟩ := r
      show EvF mtab d k_X11_sortDown 51 [some (.inr (.inr 136)), some (.inl p1), some (.inr (.inr 123)), some (.inl l3_1), some (.inl x5), some (.inl l5_13)] [] (SH L0, D14) (none, (SH L0, t0))
      obtain ⟨D15, hx, hb⟩ := bnd hb
      refine ev_bind hx 4 (pc' := 57) (L' := fun D15 => [some (.inr (.inr 136)), some (.inl p1), some (.inr (.inr 123)), some (.inl l3_1), some (.inl x5), some (.inl l5_13)]) (S' := fun D15 => []) (σ' := fun D15 => (SH L0, D15)) (fun _ _ => rfl) ?_
      cases hb
      exact ev_go 2 (pc' := 2) (L' := [some (.inr (.inr 136)), some (.inl p1), some (.inr (.inr 123)), some (.inl (w32 (l3_1 + 1))), some (.inl x5), some (.inl l5_13)]) (S' := []) (σ' := (SH L0, D15)) (fun _ _ => rfl) (hK0 (some (.inl x5)) (some (.inl l5_13)))
    clear hb
    refine ev_go 3 (pc' := 15) (L' := [some (.inr (.inr 136)), some (.inl p1), some (.inr (.inr 123)), some (.inl l3_1), some (.inl x5), some (.inl l3_1)]) (S' := []) (σ' := (SH L0, D4)) (fun _ _ => rfl) ?_
    refine loop_ind (P := fun s => EvF mtab d k_X11_sortDown 15 [some (.inr (.inr 136)), some (.inl p1), some (.inr (.inr 123)), some (.inl l3_1), some (.inl x5), some (.inl s.1)] [] (SH L0, s.2) (none, (SH L0, t0))) (X := fun r => EvF mtab d k_X11_sortDown 51 [some (.inr (.inr 136)), some (.inl p1), some (.inr (.inr 123)), some (.inl l3_1), some (.inl x5), some (.inl r.1)] [] (SH L0, r.2) (none, (SH L0, t0))) hr hX ?_
    clear hr hX
    intro s t hb hK1
    obtain ⟨l5_6, D7⟩ := s
    show EvF mtab d k_X11_sortDown 15 [some (.inr (.inr 136)), some (.inl p1), some (.inr (.inr 123)), some (.inl l3_1), some (.inl x5), some (.inl l5_6)] [] (SH L0, D7) (none, (SH L0, t0))
    unfold b_X11_sortDown_15 at hb
    rcases ite_or hb with ⟨hc, hb⟩ | ⟨hc, hb⟩
    · refine ev_ift hc 2 (pc' := 20) (L' := [some (.inr (.inr 136)), some (.inl p1), some (.inr (.inr 123)), some (.inl l3_1), some (.inl x5), some (.inl l5_6)]) (S' := []) (σ' := (SH L0, D7)) (fun _ _ => rfl) ?_
      obtain ⟨x8, hx, hb⟩ := bnd hb
      refine ev_bind hx 6 (pc' := 27) (L' := fun x8 => [some (.inr (.inr 136)), some (.inl p1), some (.inr (.inr 123)), some (.inl l3_1), some (.inl x5), some (.inl l5_6)]) (S' := fun x8 => [.inl x8, .inr (.inr 123)]) (σ' := fun x8 => (SH L0, D7)) (fun _ _ => rfl) ?_
      obtain ⟨x9, hx, hb⟩ := bnd hb
      refine ev_bind hx 1 (pc' := 28) (L' := fun x9 => [some (.inr (.inr 136)), some (.inl p1), some (.inr (.inr 123)), some (.inl l3_1), some (.inl x5), some (.inl l5_6)]) (S' := fun x9 => [.inl x9]) (σ' := fun x9 => (SH L0, D7)) (fun _ _ => rfl) ?_
      obtain ⟨x10, hx, hb⟩ := bnd hb
      refine ev_bind hx 3 (pc' := 32) (L' := fun x10 => [some (.inr (.inr 136)), some (.inl p1), some (.inr (.inr 123)), some (.inl l3_1), some (.inl x5), some (.inl l5_6)]) (S' := fun x10 => [.inl x10, .inl x9]) (σ' := fun x10 => (SH L0, D7)) (fun _ _ => rfl) ?_
      rcases ite_or hb with ⟨hc, hb⟩ | ⟨hc, hb⟩
      · refine ev_ift hc 1 (pc' := 35) (L' := [some (.inr (.inr 136)), some (.inl p1), some (.inr (.inr 123)), some (.inl l3_1), some (.inl x5), some (.inl l5_6)]) (S' := []) (σ' := (SH L0, D7)) (fun _ _ => rfl) ?_
        obtain ⟨x11, hx, hb⟩ := bnd hb
        refine ev_bind hx 7 (pc' := 44) (L' := fun x11 => [some (.inr (.inr 136)), some (.inl p1), some (.inr (.inr 123)), some (.inl l3_1), some (.inl x5), some (.inl l5_6)]) (S' := fun x11 => [.inl x11, .inl l5_6, .inr (.inr 136)]) (σ' := fun x11 => (SH L0, D7)) (fun _ _ => rfl) ?_
        obtain ⟨D12, hx, hb⟩ := bnd hb
        refine ev_bind hx 1 (pc' := 45) (L' := fun D12 => [some (.inr (.inr 136)), some (.inl p1), some (.inr (.inr 123)), some (.inl l3_1), some (.inl x5), some (.inl l5_6)]) (S' := fun D12 => []) (σ' := fun D12 => (SH L0, D12)) (fun _ _ => rfl) ?_
        cases hb
        exact ev_go 2 (pc' := 15) (L' := [some (.inr (.inr 136)), some (.inl p1), some (.inr (.inr 123)), some (.inl l3_1), some (.inl x5), some (.inl (w32 (l5_6 + (-1))))]) (S' := []) (σ' := (SH L0, D12)) (fun _ _ => rfl) hK1
      · refine ev_iff hc 1 (pc' := 51) (L' := [some (.inr (.inr 136)), some (.inl p1), some (.inr (.inr 123)), some (.inl l3_1), some (.inl x5), some (.inl l5_6)]) (S' := []) (σ' := (SH L0, D7)) (fun _ _ => rfl) ?_
        cases hb
        exact hK1
    · refine ev_iff hc 2 (pc' := 51) (L' := [some (.inr (.inr 136)), some (.inl p1), some (.inr (.inr 123)), some (.inl l3_1), some (.inl x5), some (.inl l5_6)]) (S' := []) (σ' := (SH L0, D7)) (fun _ _ => rfl) ?_
      cases hb
      exact hK1
  · refine ev_iff hc 3 (pc' := 63) (L' := [some (.inr (.inr 136)), some (.inl p1), some (.inr (.inr 123)), some (.inl l3_1), dv o2, dv o3]) (S' := []) (σ' := (SH L0, D4)) (fun _ _ => rfl) ?_
    cases hb
    exact hK0 (some (.inl l3_1)) o2 o3
set_option maxRecDepth 100000 in
set_option maxHeartbeats 4000000 in
theorem e_X11_sortDown_146_149 (L0 d : Nat) (hd : 1 ≤ d) {p1 : Int} {D : DT} {t0 : DT} (h : m_X11_sortDown 146 p1 149 D = some t0) : Ret mtab d 162 [.inr (.inr 146), .inl p1, .inr (.inr 149)] (SH L0, D) (none, (SH L0, t0)) := by
  obtain ⟨d, rfl⟩ : ∃ e, d = e + 1 := ⟨d - 1, by omega⟩
  refine Ret.of (code := k_X11_sortDown) (ml := 6) rfl ?_
  show EvF mtab d k_X11_sortDown 0 [some (.inr (.inr 146)), some (.inl p1), some (.inr (.inr 149)), none, none, none] [] (SH L0, D) (none, (SH L0, t0))
  unfold m_X11_sortDown at h
  obtain ⟨r, hr, h⟩ := bnd h
  have hX : (fun (r : DT) => ∀ (o16 : Option (Sum Int Nat)) (o17 : Option (Sum Int Nat)) (o18 : Option (Sum Int Nat)), EvF mtab d k_X11_sortDown 63 [some (.inr (.inr 146)), some (.inl p1), some (.inr (.inr 149)), dv o16, dv o17, dv o18] [] (SH L0, r) (none, (SH L0, t0))) r := by
    obtain ⟨D19, hre⟩ : ∃ q, q = r := ⟨r, rfl⟩
    subst hre
    intro o16 o17 o18
    show EvF mtab d k_X11_sortDown 63 [some (.inr (.inr 146)), some (.inl p1), some (.inr (.inr 149)), dv o16, dv o17, dv o18] [] (SH L0, D19) (none, (SH L0, t0))
    cases h
    exact ev_ret 1 (fun _ _ => rfl)
  clear h
  refine ev_go 2 (pc' := 2) (L' := [some (.inr (.inr 146)), some (.inl p1), some (.inr (.inr 149)), some (.inl 1), none, none]) (S' := []) (σ' := (SH L0, D)) (fun _ _ => rfl) ?_
  refine loop_ind (P := fun s => ∀ (o2 : Option (Sum Int Nat)) (o3 : Option (Sum Int Nat)), EvF mtab d k_X11_sortDown 2 [some (.inr (.inr 146)), some (.inl p1), some (.inr (.inr 149)), some (.inl s.1), dv o2, dv o3] [] (SH L0, s.2) (none, (SH L0, t0))) (X := fun r => ∀ (o16 : Option (Sum Int Nat)) (o17 : Option (Sum Int Nat)) (o18 : Option (Sum Int Nat)), EvF mtab d k_X11_sortDown 63 [some (.inr (.inr 146)), some (.inl p1), some (.inr (.inr 149)), dv o16, dv o17, dv o18] [] (SH L0, r) (none, (SH L0, t0))) hr hX ?_ none none
  clear hr hX
  intro s t hb hK0
  obtain ⟨l3_1, D4⟩ := s
  intro o2 o3
  show EvF mtab d k_X11_sortDown 2 [some (.inr (.inr 146)), some (.inl p1), some (.inr (.inr 149)), some (.inl l3_1), dv o2, dv o3] [] (SH L0, D4) (none, (SH L0, t0))
  unfold b_X11_sortDown_2 at hb
  rcases ite_or hb with ⟨hc, hb⟩ | ⟨hc, hb⟩
  · refine ev_ift hc 3 (pc' := 7) (L' := [some (.inr (.inr 146)), some (.inl p1), some (.inr (.inr 149)), some (.inl l3_1), dv o2, dv o3]) (S' := []) (σ' := (SH L0, D4)) (fun _ _ => rfl) ?_
    obtain ⟨x5, hx, hb⟩ := bnd hb
    refine ev_bind hx 3 (pc' := 10) (L' := fun x5 => [some (.inr (.inr 146)), some (.inl p1), some (.inr (.inr 149)), some (.inl l3_1), dv o2, dv o3]) (S' := fun x5 => [.inl x5]) (σ' := fun x5 => (SH L0, D4)) (fun _ _ => rfl) ?_
    obtain ⟨r, hr, hb⟩ := bnd hb
    have hX : (fun (r : (Int × DT)) => EvF mtab d k_X11_sortDown 51 [some (.inr (.inr 146)), some (.inl p1), some (.inr (.inr 149)), some (.inl l3_1), some (.inl x5), some (.inl r.1)] [] (SH L0, r.2) (none, (SH L0, t0))) r := by
      obtain ⟨l5_13, D14⟩ := r
      show EvF mtab d k_X11_sortDown 51 [some (.inr (.inr 146)), some (.inl p1), some (.inr (.inr 149)), some (.inl l3_1), some (.inl x5), some (.inl l5_13)] [] (SH L0, D14) (none, (SH L0, t0))
      obtain ⟨D15, hx, hb⟩ := bnd hb
      refine ev_bind hx 4 (pc' := 57) (L' := fun D15 => [some (.inr (.inr 146)), some (.inl p1), some (.inr (.inr 149)), some (.inl l3_1), some (.inl x5), some (.inl l5_13)]) (S' := fun D15 => []) (σ' := fun D15 => (SH L0, D15)) (fun _ _ => rfl) ?_
      cases hb
      exact ev_go 2 (pc' := 2) (L' := [some (.inr (.inr 146)), some (.inl p1), some (.inr (.inr 149)), some (.inl (w32 (l3_1 + 1))), some (.inl x5), some (.inl l5_13)]) (S' := []) (σ' := (SH L0, D15)) (fun _ _ => rfl) (hK0 (some (.inl x5)) (some (.inl l5_13)))
    clear hb
    refine ev_go 3 (pc' := 15) (L' := [some (.inr (.inr 146)), some (.inl p1), some (.inr (.inr 149)), some (.inl l3_1), some (.inl x5), some (.inl l3_1)]) (S' := []) (σ' := (SH L0, D4)) (fun _ _ => rfl) ?_
    refine loop_ind (P := fun s => EvF mtab d k_X11_sortDown 15 [some (.inr (.inr 146)), some (.inl p1), some (.inr (.inr 149)), some (.inl l3_1), some (.inl x5), some (.inl s.1)] [] (SH L0, s.2) (none, (SH L0, t0))) (X := fun r => EvF mtab d k_X11_sortDown 51 [some (.inr (.inr 146)), some (.inl p1), some (.inr (.inr 149)), some (.inl l3_1), some (.inl x5), some (.inl r.1)] [] (SH L0, r.2) (none, (SH L0, t0))) hr hX ?_
    clear hr hX
    intro s t hb hK1
    obtain ⟨l5_6, D7⟩ := s
    show EvF mtab d k_X11_sortDown 15 [some (.inr (.inr 146)), some (.inl p1), some (.inr (.inr 149)), some (.inl l3_1), some (.inl x5), some (.inl l5_6)] [] (SH L0, D7) (none, (SH L0, t0))
    unfold b_X11_sortDown_15 at hb
    rcases ite_or hb with ⟨hc, hb⟩ | ⟨hc, hb⟩
    · refine ev_ift hc 2 (pc' := 20) (L' := [some (.inr (.inr 146)), some (.inl p1), some (.inr (.inr 149)), some (.inl l3_1), some (.inl x5), some (.inl l5_6)]) (S' := []) (σ' := (SH L0, D7)) (fun _ _ => rfl) ?_
      obtain ⟨x8, hx, hb⟩ := bnd hb
      refine ev_bind hx 6 (pc' := 27) (L' := fun x8 => [some (.inr (.inr 146)), some (.inl p1), some (.inr (.inr 149)), some (.inl l3_1), some (.inl x5), some (.inl l5_6)]) (S' := fun x8 => [.inl x8, .inr (.inr 149)]) (σ' := fun x8 => (SH L0, D7)) (fun _ _ => rfl) ?_
      obtain ⟨x9, hx, hb⟩ := bnd hb
      refine ev_bind hx 1 (pc' := 28) (L' := fun x9 => [some (.inr (.inr 146)), some (.inl p1), some (.inr (.inr 149)), some (.inl l3_1), some (.inl x5), some (.inl l5_6)]) (S' := fun x9 => [.inl x9]) (σ' := fun x9 => (SH L0, D7)) (fun _ _ => rfl) ?_
      obtain ⟨x10, hx, hb⟩ := bnd hb
      refine ev_bind hx 3 (pc' := 32) (L' := fun x10 => [some (.inr (.inr 146)), some (.inl p1), some (.inr (.inr 149)), some (.inl l3_1), some (.inl x5), some (.inl l5_6)]) (S' := fun x10 => [.inl x10, .inl x9]) (σ' := fun x10 => (SH L0, D7)) (fun _ _ => rfl) ?_
      rcases ite_or hb with ⟨hc, hb⟩ | ⟨hc, hb⟩
      · refine ev_ift hc 1 (pc' := 35) (L' := [some (.inr (.inr 146)), some (.inl p1), some (.inr (.inr 149)), some (.inl l3_1), some (.inl x5), some (.inl l5_6)]) (S' := []) (σ' := (SH L0, D7)) (fun _ _ => rfl) ?_
        obtain ⟨x11, hx, hb⟩ := bnd hb
        refine ev_bind hx 7 (pc' := 44) (L' := fun x11 => [some (.inr (.inr 146)), some (.inl p1), some (.inr (.inr 149)), some (.inl l3_1), some (.inl x5), some (.inl l5_6)]) (S' := fun x11 => [.inl x11, .inl l5_6, .inr (.inr 146)]) (σ' := fun x11 => (SH L0, D7)) (fun _ _ => rfl) ?_
        obtain ⟨D12, hx, hb⟩ := bnd hb
        refine ev_bind hx 1 (pc' := 45) (L' := fun D12 => [some (.inr (.inr 146)), some (.inl p1), some (.inr (.inr 149)), some (.inl l3_1), some (.inl x5), some (.inl l5_6)]) (S' := fun D12 => []) (σ' := fun D12 => (SH L0, D12)) (fun _ _ => rfl) ?_
        cases hb
        exact ev_go 2 (pc' := 15) (L' := [some (.inr (.inr 146)), some (.inl p1), some (.inr (.inr 149)), some (.inl l3_1), some (.inl x5), some (.inl (w32 (l5_6 + (-1))))]) (S' := []) (σ' := (SH L0, D12)) (fun _ _ => rfl) hK1
      · refine ev_iff hc 1 (pc' := 51) (L' := [some (.inr (.inr 146)), some (.inl p1), some (.inr (.inr 149)), some (.inl l3_1), some (.inl x5), some (.inl l5_6)]) (S' := []) (σ' := (SH L0, D7)) (fun _ _ => rfl) ?_
        cases hb
        exact hK1
    · refine ev_iff hc 2 (pc' := 51) (L' := [some (.inr (.inr 146)), some (.inl p1), some (.inr (.inr 149)), some (.inl l3_1), some (.inl x5), some (.inl l5_6)]) (S' := []) (σ' := (SH L0, D7)) (fun _ _ => rfl) ?_
      cases hb
      exact hK1
  · refine ev_iff hc 3 (pc' := 63) (L' := [some (.inr (.inr 146)), some (.inl p1), some (.inr (.inr 149)), some (.inl l3_1), dv o2, dv o3]) (S' := []) (σ' := (SH L0, D4)) (fun _ _ => rfl) ?_
    cases hb
    exact hK0 (some (.inl l3_1)) o2 o3
set_option maxRecDepth 100000 in
set_option maxHeartbeats 4000000 in
theorem e_X11_sortDown_146_151 (L0 d : Nat) (hd : 1 ≤ d) {p1 : Int} {D : DT} {t0 : DT} (h : m_X11_sortDown 146 p1 151 D = some t0) : Ret mtab d 162 [.inr (.inr 146), .inl p1, .inr (.inr 151)] (SH L0, D) (none, (SH L0, t0)) := by
  obtain ⟨d, rfl⟩ : ∃ e, d = e + 1 := ⟨d - 1, by omega⟩
  refine Ret.of (code := k_X11_sortDown) (ml := 6) rfl ?_
  show EvF mtab d k_X11_sortDown 0 [some (.inr (.inr 146)), some (.inl p1), some (.inr (.inr 151)), none, none, none] [] (SH L0, D) (none, (SH L0, t0))
  unfold m_X11_sortDown at h
  obtain ⟨r, hr, h⟩ := bnd h
  have hX : (fun (r : DT) => ∀ (o16 : Option (Sum Int Nat)) (o17 : Option (Sum Int Nat)) (o18 : Option (Sum Int Nat)), EvF mtab d k_X11_sortDown 63 [some (.inr (.inr 146)), some (.inl p1), some (.inr (.inr 151)), dv o16, dv o17, dv o18] [] (SH L0, r) (none, (SH L0, t0))) r := by
    obtain ⟨D19, hre⟩ : ∃ q, q = r := ⟨r, rfl⟩
    subst hre
    intro o16 o17 o18
    show EvF mtab d k_X11_sortDown 63 [some (.inr (.inr 146)), some (.inl p1), some (.inr (.inr 151)), dv o16, dv o17, dv o18] [] (SH L0, D19) (none, (SH L0, t0))
    cases h
    exact ev_ret 1 (fun _ _ => rfl)
  clear h
  refine ev_go 2 (pc' := 2) (L' := [some (.inr (.inr 146)), some (.inl p1), some (.inr (.inr 151)), some (.inl 1), none, none]) (S' := []) (σ' := (SH L0, D)) (fun _ _ => rfl) ?_
  refine loop_ind (P := fun s => ∀ (o2 : Option (Sum Int Nat)) (o3 : Option (Sum Int Nat)), EvF mtab d k_X11_sortDown 2 [some (.inr (.inr 146)), some (.inl p1), some (.inr (.inr 151)), some (.inl s.1), dv o2, dv o3] [] (SH L0, s.2) (none, (SH L0, t0))) (X := fun r => ∀ (o16 : Option (Sum Int Nat)) (o17 : Option (Sum Int Nat)) (o18 : Option (Sum Int Nat)), EvF mtab d k_X11_sortDown 63 [some (.inr (.inr 146)), some (.inl p1), some (.inr (.inr 151)), dv o16, dv o17, dv o18] [] (SH L0, r) (none, (SH L0, t0))) hr hX ?_ none none
  clear hr hX
  intro s t hb hK0
  obtain ⟨l3_1, D4⟩ := s
  intro o2 o3
  show EvF mtab d k_X11_sortDown 2 [some (.inr (.inr 146)), some (.inl p1), some (.inr (.inr 151)), some (.inl l3_1), dv o2, dv o3] [] (SH L0, D4) (none, (SH L0, t0))
  unfold b_X11_sortDown_2 at hb
  rcases ite_or hb with ⟨hc, hb⟩ | ⟨hc, hb⟩
  · refine ev_ift hc 3 (pc' := 7) (L' := [some (.inr (.inr 146)), some (.inl p1), some (.inr (.inr 151)), some (.inl l3_1), dv o2, dv o3]) (S' := []) (σ' := (SH L0, D4)) (fun _ _ => rfl) ?_
    obtain ⟨x5, hx, hb⟩ := bnd hb
    refine ev_bind hx 3 (pc' := 10) (L' := fun x5 => [some (.inr (.inr 146)), some (.inl p1), some (.inr (.inr 151)), some (.inl l3_1), dv o2, dv o3]) (S' := fun x5 => [.inl x5]) (σ' := fun x5 => (SH L0, D4)) (fun _ _ => rfl) ?_
    obtain ⟨r, hr, hb⟩ := bnd hb
    have hX : (fun (r : (Int × DT)) => EvF mtab d k_X11_sortDown 51 [some (.inr (.inr 146)), some (.inl p1), some (.inr (.inr 151)), some (.inl l3_1), some (.inl x5), some (.inl r.1)] [] (SH L0, r.2) (none, (SH L0, t0))) r := by
      obtain ⟨l5_13, D14⟩ := r
      show EvF mtab d k_X11_sortDown 51 [some (.inr (.inr 146)), some (.inl p1), some (.inr (.inr 151)), some (.inl l3_1), some (.inl x5), some (.inl l5_13)] [] (SH L0, D14) (none, (SH L0, t0))
      obtain ⟨D15, hx, hb⟩ := bnd hb
      refine ev_bind hx 4 (pc' := 57) (L' := fun D15 => [some (.inr (.inr 146)), some (.inl p1), some (.inr (.inr 151)), some (.inl l3_1), some (.inl x5), some (.inl l5_13)]) (S' := fun D15 => []) (σ' := fun D15 => (SH L0, D15)) (fun _ _ => rfl) ?_
      cases hb
      exact ev_go 2 (pc' := 2) (L' := [some (.inr (.inr 146)), some (.inl p1), some (.inr (.inr 151)), some (.inl (w32 (l3_1 + 1))), some (.inl x5), some (.inl l5_13)]) (S' := []) (σ' := (SH L0, D15)) (fun _ _ => rfl) (hK0 (some (.inl x5)) (some (.inl l5_13)))
    clear hb
    refine ev_go 3 (pc' := 15) (L' := [some (.inr (.inr 146)), some (.inl p1), some (.inr (.inr 151)), some (.inl l3_1), some (.inl x5), some (.inl l3_1)]) (S' := []) (σ' := (SH L0, D4)) (fun _ _ => rfl) ?_
    refine loop_ind (P := fun s => EvF mtab d k_X11_sortDown 15 [some (.inr (.inr 146)), some (.inl p1), some (.inr (.inr 151)), some (.inl l3_1), some (.inl x5), some (.inl s.1)] [] (SH L0, s.2) (none, (SH L0, t0))) (X := fun r => EvF mtab d k_X11_sortDown 51 [some (.inr (.inr 146)), some (.inl p1), some (.inr (.inr 151)), some (.inl l3_1), some (.inl x5), some (.inl r.1)] [] (SH L0, r.2) (none, (SH L0, t0))) hr hX ?_
    clear hr hX
    intro s t hb hK1
    obtain ⟨l5_6, D7⟩ := s
    show EvF mtab d k_X11_sortDown 15 [some (.inr (.inr 146)), some (.inl p1), some (.inr (.inr 151)), some (.inl l3_1), some (.inl x5), some (.inl l5_6)] [] (SH L0, D7) (none, (SH L0, t0))
    unfold b_X11_sortDown_15 at hb
    rcases ite_or hb with ⟨hc, hb⟩ | ⟨hc, hb⟩
    · refine ev_ift hc 2 (pc' := 20) (L' := [some (.inr (.inr 146)), some (.inl p1), some (.inr (.inr 151)), some (.inl l3_1), some (.inl x5), some (.inl l5_6)]) (S' := []) (σ' := (SH L0, D7)) (fun _ _ => rfl) ?_
      obtain ⟨x8, hx, hb⟩ := bnd hb
      refine ev_bind hx 6 (pc' := 27) (L' := fun x8 => [some (.inr (.inr 146)), some (.inl p1), some (.inr (.inr 151)), some (.inl l3_1), some (.inl x5), some (.inl l5_6)]) (S' := fun x8 => [.inl x8, .inr (.inr 151)]) (σ' := fun x8 => (SH L0, D7)) (fun _ _ => rfl) ?_
      obtain ⟨x9, hx, hb⟩ := bnd hb
      refine ev_bind hx 1 (pc' := 28) (L' := fun x9 => [some (.inr (.inr 146)), some (.inl p1), some (.inr (.inr 151)), some (.inl l3_1), some (.inl x5), some (.inl l5_6)]) (S' := fun x9 => [.inl x9]) (σ' := fun x9 => (SH L0, D7)) (fun _ _ => rfl) ?_
      obtain ⟨x10, hx, hb⟩ := bnd hb
      refine ev_bind hx 3 (pc' := 32) (L' := fun x10 => [some (.inr (.inr 146)), some (.inl p1), some (.inr (.inr 151)), some (.inl l3_1), some (.inl x5), some (.inl l5_6)]) (S' := fun x10 => [.inl x10, .inl x9]) (σ' := fun x10 => (SH L0, D7)) (fun _ _ => rfl) ?_
      rcases ite_or hb with ⟨hc, hb⟩ | ⟨hc, hb⟩
      · refine ev_ift hc 1 (pc' := 35) (L' := [some (.inr (.inr 146)), some (.inl p1), some (.inr (.inr 151)), some (.inl l3_1), some (.inl x5), some (.inl l5_6)]) (S' := []) (σ' := (SH L0, D7)) (fun _ _ => rfl) ?_
        obtain ⟨x11, hx, hb⟩ := bnd hb
        refine ev_bind hx 7 (pc' := 44) (L' := fun x11 => [some (.inr (.inr 146)), some (.inl p1), some (.inr (.inr 151)), some (.inl l3_1), some (.inl x5), some (.inl l5_6)]) (S' := fun x11 => [.inl x11, .inl l5_6, .inr (.inr 146)]) (σ' := fun x11 => (SH L0, D7)) (fun _ _ => rfl) ?_
        obtain ⟨D12, hx, hb⟩ := bnd hb
        refine ev_bind hx 1 (pc' := 45) (L' := fun D12 => [some (.inr (.inr 146)), some (.inl p1), some (.inr (.inr 151)), some (.inl l3_1), some (.inl x5), some (.inl l5_6)]) (S' := fun D12 => []) (σ' := fun D12 => (SH L0, D12)) (fun _ _ => rfl) ?_
        cases hb
        exact ev_go 2 (pc' := 15) (L' := [some (.inr (.inr 146)), some (.inl p1), some (.inr (.inr 151)), some (.inl l3_1), some (.inl x5), some (.inl (w32 (l5_6 + (-1))))]) (S' := []) (σ' := (SH L0, D12)) (fun _ _ => rfl) hK1
      · refine ev_iff hc 1 (pc' := 51) (L' := [some (.inr (.inr 146)), some (.inl p1), some (.inr (.inr 151)), some (.inl l3_1), some (.inl x5), some (.inl l5_6)]) (S' := []) (σ' := (SH L0, D7)) (fun _ _ => rfl) ?_
        cases hb
        exact hK1
    · refine ev_iff hc 2 (pc' := 51) (L' := [some (.inr (.inr 146)), some (.inl p1), some (.inr (.inr 151)), some (.inl l3_1), some (.inl x5), some (.inl l5_6)]) (S' := []) (σ' := (SH L0, D7)) (fun _ _ => rfl) ?_
      cases hb
      exact hK1
  · refine ev_iff hc 3 (pc' := 63) (L' := [some (.inr (.inr 146)), some (.inl p1), some (.inr (.inr 151)), some (.inl l3_1), dv o2, dv o3]) (S' := []) (σ' := (SH L0, D4)) (fun _ _ => rfl) ?_
    cases hb
    exact hK0 (some (.inl l3_1)) o2 o3
set_option maxRecDepth 100000 in
set_option maxHeartbeats 4000000 in
theorem e_X0_join (L0 d : Nat) (hd : 5 ≤ d) {p1 : Int} {D : DT} {t0 : DT} (h : m_X0_join p1 D = some t0) : Ret mtab d 1 [.inr (.inr 131), .inl p1] (SH L0, D) (none, (SH L0, t0)) := by
  obtain ⟨d, rfl⟩ : ∃ e, d = e + 1 := ⟨d - 1, by omega⟩
  refine Ret.of (code := k_X0_join) (ml := 4) rfl ?_
  show EvF mtab d k_X0_join 0 [some (.inr (.inr 131)), some (.inl p1), none, none] [] (SH L0, D) (none, (SH L0, t0))
  unfold m_X0_join at h
  obtain ⟨D1, hx, h⟩ := bnd h
  refine ev_call (e_X0_part L0 d (by omega) hx) 3 (pc' := 5) (L' := [some (.inr (.inr 131)), some (.inl p1), none, none]) (S' := []) (fun _ _ => rfl) ?_
  obtain ⟨⟨x2, D3⟩, hx, h⟩ := bnd h
  refine ev_call (e_X0_listArcs L0 d (by omega) hx) 3 (pc' := 10) (L' := [some (.inr (.inr 131)), some (.inl p1), none, none]) (S' := []) (fun _ _ => rfl) ?_
  obtain ⟨D4, hx, h⟩ := bnd h
  refine ev_call (e_X11_sortDown_136_123 L0 d (by omega) hx) 8 (pc' := 26) (L' := [some (.inr (.inr 131)), some (.inl p1), some (.inl x2), none]) (S' := []) (fun _ _ => rfl) ?_
  obtain ⟨r, hr, h⟩ := bnd h
  have hX : (fun (r : DT) => ∀ (o9 : Option (Sum Int Nat)), EvF mtab d k_X0_join 49 [some (.inr (.inr 131)), some (.inl p1), some (.inl x2), dv o9] [] (SH L0, r) (none, (SH L0, t0))) r := by
    obtain ⟨D10, hre⟩ : ∃ q, q = r := ⟨r, rfl⟩
    subst hre
    intro o9
    show EvF mtab d k_X0_join 49 [some (.inr (.inr 131)), some (.inl p1), some (.inl x2), dv o9] [] (SH L0, D10) (none, (SH L0, t0))
    obtain ⟨D11, hx, h⟩ := bnd h
    refine ev_call (e_X0_stand L0 d (by omega) hx) 4 (pc' := 55) (L' := [some (.inr (.inr 131)), some (.inl p1), some (.inl x2), dv o9]) (S' := []) (fun _ _ => rfl) ?_
    obtain ⟨x12, hx, h⟩ := bnd h
    refine ev_call (e_X0_savedBy_131_132 L0 d (by omega) hx) 5 (pc' := 64) (L' := [some (.inr (.inr 131)), some (.inl p1), some (.inl x2), dv o9]) (S' := []) (fun _ _ => rfl) ?_
    obtain ⟨x13, hx, h⟩ := bnd h
    refine ev_call (e_X0_savedBy_131_7 L0 d (by omega) hx) 6 (pc' := 76) (L' := [some (.inr (.inr 131)), some (.inl p1), some (.inl x2), dv o9]) (S' := [.inl x12]) (fun _ _ => rfl) ?_
    obtain ⟨D15, hv, h⟩ := bnd h
    have hJ : EvF mtab d k_X0_join 84 [some (.inr (.inr 131)), some (.inl p1), some (.inl x2), dv o9] [] (SH L0, D15) (none, (SH L0, t0)) := by
      obtain ⟨D16, hx, h⟩ := bnd h
      refine ev_call (e_X0_markCold L0 d (by omega) hx) 3 (pc' := 89) (L' := [some (.inr (.inr 131)), some (.inl p1), some (.inl x2), dv o9]) (S' := []) (fun _ _ => rfl) ?_
      cases h
      exact ev_ret 1 (fun _ _ => rfl)
    clear h
    rcases ite_or hv with ⟨hc, hv⟩ | ⟨hc, hv⟩
    · refine ev_ift hc 1 (pc' := 84) (L' := [some (.inr (.inr 131)), some (.inl p1), some (.inl x2), dv o9]) (S' := []) (σ' := (SH L0, D11)) (fun _ _ => rfl) ?_
      have he0 := Option.some.inj hv
      subst he0
      exact hJ
    · refine ev_iff hc 1 (pc' := 79) (L' := [some (.inr (.inr 131)), some (.inl p1), some (.inl x2), dv o9]) (S' := []) (σ' := (SH L0, D11)) (fun _ _ => rfl) ?_
      obtain ⟨D14, hx, hv⟩ := bnd hv
      refine ev_call (e_X0_keepNumbers L0 d (by omega) hx) 3 (pc' := 84) (L' := [some (.inr (.inr 131)), some (.inl p1), some (.inl x2), dv o9]) (S' := []) (fun _ _ => rfl) ?_
      have he0 := Option.some.inj hv
      subst he0
      exact hJ
  clear h
  refine ev_go 2 (pc' := 28) (L' := [some (.inr (.inr 131)), some (.inl p1), some (.inl x2), some (.inl 0)]) (S' := []) (σ' := (SH L0, D4)) (fun _ _ => rfl) ?_
  refine loop_ind (P := fun s => EvF mtab d k_X0_join 28 [some (.inr (.inr 131)), some (.inl p1), some (.inl x2), some (.inl s.1)] [] (SH L0, s.2) (none, (SH L0, t0))) (X := fun r => ∀ (o9 : Option (Sum Int Nat)), EvF mtab d k_X0_join 49 [some (.inr (.inr 131)), some (.inl p1), some (.inl x2), dv o9] [] (SH L0, r) (none, (SH L0, t0))) hr hX ?_
  clear hr hX
  intro s t hb hK0
  obtain ⟨l3_5, D6⟩ := s
  show EvF mtab d k_X0_join 28 [some (.inr (.inr 131)), some (.inl p1), some (.inl x2), some (.inl l3_5)] [] (SH L0, D6) (none, (SH L0, t0))
  unfold b_X0_join_28 at hb
  rcases ite_or hb with ⟨hc, hb⟩ | ⟨hc, hb⟩
  · refine ev_ift hc 3 (pc' := 33) (L' := [some (.inr (.inr 131)), some (.inl p1), some (.inl x2), some (.inl l3_5)]) (S' := []) (σ' := (SH L0, D6)) (fun _ _ => rfl) ?_
    obtain ⟨x7, hx, hb⟩ := bnd hb
    refine ev_bind hx 5 (pc' := 40) (L' := fun x7 => [some (.inr (.inr 131)), some (.inl p1), some (.inl x2), some (.inl l3_5)]) (S' := fun x7 => [.inl x7, .inr (.inr 131)]) (σ' := fun x7 => (SH L0, D6)) (fun _ _ => rfl) ?_
    obtain ⟨D8, hx, hb⟩ := bnd hb
    refine ev_call (e_X0_link L0 d (by omega) hx) 1 (pc' := 43) (L' := [some (.inr (.inr 131)), some (.inl p1), some (.inl x2), some (.inl l3_5)]) (S' := []) (fun _ _ => rfl) ?_
    cases hb
    exact ev_go 2 (pc' := 28) (L' := [some (.inr (.inr 131)), some (.inl p1), some (.inl x2), some (.inl (w32 (l3_5 + 1)))]) (S' := []) (σ' := (SH L0, D8)) (fun _ _ => rfl) hK0
  · refine ev_iff hc 3 (pc' := 49) (L' := [some (.inr (.inr 131)), some (.inl p1), some (.inl x2), some (.inl l3_5)]) (S' := []) (σ' := (SH L0, D6)) (fun _ _ => rfl) ?_
    cases hb
    exact hK0 (some (.inl l3_5))
set_option maxRecDepth 100000 in
set_option maxHeartbeats 4000000 in
theorem e_X2_warmth (L0 d : Nat) (hd : 1 ≤ d) {p1 : Int} {D : DT} {t0 : Int} (h : m_X2_warmth p1 D = some t0) : Ret mtab d 34 [.inr (.inr 122), .inl p1] (SH L0, D) (some (.inl t0), (SH L0, D)) := by
  obtain ⟨d, rfl⟩ : ∃ e, d = e + 1 := ⟨d - 1, by omega⟩
  refine Ret.of (code := k_X2_warmth) (ml := 2) rfl ?_
  show EvF mtab d k_X2_warmth 0 [some (.inr (.inr 122)), some (.inl p1)] [] (SH L0, D) (some (.inl t0), (SH L0, D))
  unfold m_X2_warmth at h
  obtain ⟨x1, hx, h⟩ := bnd h
  refine ev_bind hx 4 (pc' := 6) (L' := fun x1 => [some (.inr (.inr 122)), some (.inl p1)]) (S' := fun x1 => [.inl x1]) (σ' := fun x1 => (SH L0, D)) (fun _ _ => rfl) ?_
  cases h
  exact ev_ret 3 (fun _ _ => rfl)
set_option maxRecDepth 100000 in
set_option maxHeartbeats 4000000 in
theorem e_X1_pull (L0 d : Nat) (hd : 2 ≤ d) {p1 p2 : Int} {D : DT} {t0 : Int} (h : m_X1_pull p1 p2 D = some t0) : Ret mtab d 15 [.inr (.inr 141), .inl p1, .inl p2] (SH L0, D) (some (.inl t0), (SH L0, D)) := by
  obtain ⟨d, rfl⟩ : ∃ e, d = e + 1 := ⟨d - 1, by omega⟩
  refine Ret.of (code := k_X1_pull) (ml := 7) rfl ?_
  show EvF mtab d k_X1_pull 0 [some (.inr (.inr 141)), some (.inl p1), some (.inl p2), none, none, none, none] [] (SH L0, D) (some (.inl t0), (SH L0, D))
  unfold m_X1_pull at h
  obtain ⟨r, hr, h⟩ := bnd h
  have hX : (fun (r : Int) => ∀ (o15 : Option (Sum Int Nat)) (o16 : Option (Sum Int Nat)) (o17 : Option (Sum Int Nat)), EvF mtab d k_X1_pull 83 [some (.inr (.inr 141)), some (.inl p1), some (.inl p2), some (.inl r), dv o15, dv o16, dv o17] [] (SH L0, D) (some (.inl t0), (SH L0, D))) r := by
    obtain ⟨l3_14, hre⟩ : ∃ q, q = r := ⟨r, rfl⟩
    subst hre
    intro o15 o16 o17
    show EvF mtab d k_X1_pull 83 [some (.inr (.inr 141)), some (.inl p1), some (.inl p2), some (.inl l3_14), dv o15, dv o16, dv o17] [] (SH L0, D) (some (.inl t0), (SH L0, D))
    cases h
    exact ev_ret 2 (fun _ _ => rfl)
  clear h
  refine ev_go 4 (pc' := 5) (L' := [some (.inr (.inr 141)), some (.inl p1), some (.inl p2), some (.inl 0), some (.inl 0), none, none]) (S' := []) (σ' := (SH L0, D)) (fun _ _ => rfl) ?_
  refine loop_ind (P := fun s => ∀ (o3 : Option (Sum Int Nat)) (o4 : Option (Sum Int Nat)), EvF mtab d k_X1_pull 5 [some (.inr (.inr 141)), some (.inl p1), some (.inl p2), some (.inl s.1), some (.inl s.2), dv o3, dv o4] [] (SH L0, D) (some (.inl t0), (SH L0, D))) (X := fun r => ∀ (o15 : Option (Sum Int Nat)) (o16 : Option (Sum Int Nat)) (o17 : Option (Sum Int Nat)), EvF mtab d k_X1_pull 83 [some (.inr (.inr 141)), some (.inl p1), some (.inl p2), some (.inl r), dv o15, dv o16, dv o17] [] (SH L0, D) (some (.inl t0), (SH L0, D))) hr hX ?_ none none
  clear hr hX
  intro s t hb hK0
  obtain ⟨l3_1, l4_2⟩ := s
  intro o3 o4
  show EvF mtab d k_X1_pull 5 [some (.inr (.inr 141)), some (.inl p1), some (.inl p2), some (.inl l3_1), some (.inl l4_2), dv o3, dv o4] [] (SH L0, D) (some (.inl t0), (SH L0, D))
  unfold b_X1_pull_5 at hb
  obtain ⟨x5, hx, hb⟩ := bnd hb
  refine ev_bind hx 6 (pc' := 16) (L' := fun x5 => [some (.inr (.inr 141)), some (.inl p1), some (.inl p2), some (.inl l3_1), some (.inl l4_2), dv o3, dv o4]) (S' := fun x5 => [.inl x5, .inl l4_2]) (σ' := fun x5 => (SH L0, D)) (fun _ _ => rfl) ?_
  rcases ite_or hb with ⟨hc, hb⟩ | ⟨hc, hb⟩
  · refine ev_ift hc 1 (pc' := 19) (L' := [some (.inr (.inr 141)), some (.inl p1), some (.inl p2), some (.inl l3_1), some (.inl l4_2), dv o3, dv o4]) (S' := []) (σ' := (SH L0, D)) (fun _ _ => rfl) ?_
    obtain ⟨x6, hx, hb⟩ := bnd hb
    refine ev_call (e_X7_member_4 L0 d (by omega) hx) 5 (pc' := 29) (L' := [some (.inr (.inr 141)), some (.inl p1), some (.inl p2), some (.inl l3_1), some (.inl l4_2), dv o3, dv o4]) (S' := []) (fun _ _ => rfl) ?_
    obtain ⟨r, hr, hb⟩ := bnd hb
    have hX : (fun (r : Int) => ∀ (o13 : Option (Sum Int Nat)), EvF mtab d k_X1_pull 77 [some (.inr (.inr 141)), some (.inl p1), some (.inl p2), some (.inl r), some (.inl l4_2), some (.inl x6), dv o13] [] (SH L0, D) (some (.inl t0), (SH L0, D))) r := by
      obtain ⟨l3_12, hre⟩ : ∃ q, q = r := ⟨r, rfl⟩
      subst hre
      intro o13
      show EvF mtab d k_X1_pull 77 [some (.inr (.inr 141)), some (.inl p1), some (.inl p2), some (.inl l3_12), some (.inl l4_2), some (.inl x6), dv o13] [] (SH L0, D) (some (.inl t0), (SH L0, D))
      cases hb
      exact ev_go 2 (pc' := 5) (L' := [some (.inr (.inr 141)), some (.inl p1), some (.inl p2), some (.inl l3_12), some (.inl (w32 (l4_2 + 1))), some (.inl x6), dv o13]) (S' := []) (σ' := (SH L0, D)) (fun _ _ => rfl) (hK0 (some (.inl x6)) o13)
    clear hb
    refine ev_go 3 (pc' := 34) (L' := [some (.inr (.inr 141)), some (.inl p1), some (.inl p2), some (.inl l3_1), some (.inl l4_2), some (.inl x6), some (.inl 0)]) (S' := []) (σ' := (SH L0, D)) (fun _ _ => rfl) ?_
    refine loop_ind (P := fun s => EvF mtab d k_X1_pull 34 [some (.inr (.inr 141)), some (.inl p1), some (.inl p2), some (.inl s.1), some (.inl l4_2), some (.inl x6), some (.inl s.2)] [] (SH L0, D) (some (.inl t0), (SH L0, D))) (X := fun r => ∀ (o13 : Option (Sum Int Nat)), EvF mtab d k_X1_pull 77 [some (.inr (.inr 141)), some (.inl p1), some (.inl p2), some (.inl r), some (.inl l4_2), some (.inl x6), dv o13] [] (SH L0, D) (some (.inl t0), (SH L0, D))) hr hX ?_
    clear hr hX
    intro s t hb hK1
    obtain ⟨l3_7, l6_8⟩ := s
    show EvF mtab d k_X1_pull 34 [some (.inr (.inr 141)), some (.inl p1), some (.inl p2), some (.inl l3_7), some (.inl l4_2), some (.inl x6), some (.inl l6_8)] [] (SH L0, D) (some (.inl t0), (SH L0, D))
    unfold b_X1_pull_34 at hb
    rcases ite_or hb with ⟨hc, hb⟩ | ⟨hc, hb⟩
    · refine ev_ift hc 3 (pc' := 40) (L' := [some (.inr (.inr 141)), some (.inl p1), some (.inl p2), some (.inl l3_7), some (.inl l4_2), some (.inl x6), some (.inl l6_8)]) (S' := []) (σ' := (SH L0, D)) (fun _ _ => rfl) ?_
      obtain ⟨x9, hx, hb⟩ := bnd hb
      refine ev_bind hx 9 (pc' := 55) (L' := fun x9 => [some (.inr (.inr 141)), some (.inl p1), some (.inl p2), some (.inl l3_7), some (.inl l4_2), some (.inl x6), some (.inl l6_8)]) (S' := fun x9 => [.inl x9]) (σ' := fun x9 => (SH L0, D)) (fun _ _ => rfl) ?_
      obtain ⟨l3_11, hv, hb⟩ := bnd hb
      have hJ : EvF mtab d k_X1_pull 71 [some (.inr (.inr 141)), some (.inl p1), some (.inl p2), some (.inl l3_11), some (.inl l4_2), some (.inl x6), some (.inl l6_8)] [] (SH L0, D) (some (.inl t0), (SH L0, D)) := by
        cases hb
        exact ev_go 2 (pc' := 34) (L' := [some (.inr (.inr 141)), some (.inl p1), some (.inl p2), some (.inl l3_11), some (.inl l4_2), some (.inl x6), some (.inl (w32 (l6_8 + 1)))]) (S' := []) (σ' := (SH L0, D)) (fun _ _ => rfl) hK1
      clear hb
      rcases ite_or hv with ⟨hc, hv⟩ | ⟨hc, hv⟩
      · refine ev_ift hc 2 (pc' := 59) (L' := [some (.inr (.inr 141)), some (.inl p1), some (.inl p2), some (.inl l3_7), some (.inl l4_2), some (.inl x6), some (.inl l6_8)]) (S' := []) (σ' := (SH L0, D)) (fun _ _ => rfl) ?_
        obtain ⟨x10, hx, hv⟩ := bnd hv
        refine ev_call (e_X2_warmth L0 d (by omega) hx) 5 (pc' := 69) (L' := [some (.inr (.inr 141)), some (.inl p1), some (.inl p2), some (.inl l3_7), some (.inl l4_2), some (.inl x6), some (.inl l6_8)]) (S' := [.inl l3_7]) (fun _ _ => rfl) ?_
        have he0 := Option.some.inj hv
        subst he0
        exact ev_go 2 (pc' := 71) (L' := [some (.inr (.inr 141)), some (.inl p1), some (.inl p2), some (.inl (w32 (l3_7 + x10))), some (.inl l4_2), some (.inl x6), some (.inl l6_8)]) (S' := []) (σ' := (SH L0, D)) (fun _ _ => rfl) hJ
      · refine ev_iff hc 2 (pc' := 71) (L' := [some (.inr (.inr 141)), some (.inl p1), some (.inl p2), some (.inl l3_7), some (.inl l4_2), some (.inl x6), some (.inl l6_8)]) (S' := []) (σ' := (SH L0, D)) (fun _ _ => rfl) ?_
        have he0 := Option.some.inj hv
        subst he0
        exact hJ
    · refine ev_iff hc 3 (pc' := 77) (L' := [some (.inr (.inr 141)), some (.inl p1), some (.inl p2), some (.inl l3_7), some (.inl l4_2), some (.inl x6), some (.inl l6_8)]) (S' := []) (σ' := (SH L0, D)) (fun _ _ => rfl) ?_
      cases hb
      exact hK1 (some (.inl l6_8))
  · refine ev_iff hc 1 (pc' := 83) (L' := [some (.inr (.inr 141)), some (.inl p1), some (.inl p2), some (.inl l3_1), some (.inl l4_2), dv o3, dv o4]) (S' := []) (σ' := (SH L0, D)) (fun _ _ => rfl) ?_
    cases hb
    exact hK0 (some (.inl l4_2)) o3 o4
set_option maxRecDepth 100000 in
set_option maxHeartbeats 4000000 in
theorem e_X1_seekCaller (L0 d : Nat) (hd : 3 ≤ d) {p1 : Int} {D : DT} {t0 : Int} (h : m_X1_seekCaller p1 D = some t0) : Ret mtab d 16 [.inr (.inr 141), .inl p1] (SH L0, D) (some (.inl t0), (SH L0, D)) := by
  obtain ⟨d, rfl⟩ : ∃ e, d = e + 1 := ⟨d - 1, by omega⟩
  refine Ret.of (code := k_X1_seekCaller) (ml := 6) rfl ?_
  show EvF mtab d k_X1_seekCaller 0 [some (.inr (.inr 141)), some (.inl p1), none, none, none, none] [] (SH L0, D) (some (.inl t0), (SH L0, D))
  unfold m_X1_seekCaller at h
  obtain ⟨r, hr, h⟩ := bnd h
  have hX : (fun (r : Int) => ∀ (o10 : Option (Sum Int Nat)) (o11 : Option (Sum Int Nat)) (o12 : Option (Sum Int Nat)), EvF mtab d k_X1_seekCaller 56 [some (.inr (.inr 141)), some (.inl p1), some (.inl r), dv o10, dv o11, dv o12] [] (SH L0, D) (some (.inl t0), (SH L0, D))) r := by
    obtain ⟨l2_9, hre⟩ : ∃ q, q = r := ⟨r, rfl⟩
    subst hre
    intro o10 o11 o12
    show EvF mtab d k_X1_seekCaller 56 [some (.inr (.inr 141)), some (.inl p1), some (.inl l2_9), dv o10, dv o11, dv o12] [] (SH L0, D) (some (.inl t0), (SH L0, D))
    cases h
    exact ev_ret 2 (fun _ _ => rfl)
  clear h
  refine ev_go 6 (pc' := 7) (L' := [some (.inr (.inr 141)), some (.inl p1), some (.inl (-1)), some (.inl 0), some (.inl 0), none]) (S' := []) (σ' := (SH L0, D)) (fun _ _ => rfl) ?_
  refine loop_ind (P := fun s => ∀ (o4 : Option (Sum Int Nat)), EvF mtab d k_X1_seekCaller 7 [some (.inr (.inr 141)), some (.inl p1), some (.inl s.1), some (.inl s.2.1), some (.inl s.2.2), dv o4] [] (SH L0, D) (some (.inl t0), (SH L0, D))) (X := fun r => ∀ (o10 : Option (Sum Int Nat)) (o11 : Option (Sum Int Nat)) (o12 : Option (Sum Int Nat)), EvF mtab d k_X1_seekCaller 56 [some (.inr (.inr 141)), some (.inl p1), some (.inl r), dv o10, dv o11, dv o12] [] (SH L0, D) (some (.inl t0), (SH L0, D))) hr hX ?_ none
  clear hr hX
  intro s t hb hK0
  obtain ⟨l2_1, l3_2, l4_3⟩ := s
  intro o4
  show EvF mtab d k_X1_seekCaller 7 [some (.inr (.inr 141)), some (.inl p1), some (.inl l2_1), some (.inl l3_2), some (.inl l4_3), dv o4] [] (SH L0, D) (some (.inl t0), (SH L0, D))
  unfold b_X1_seekCaller_7 at hb
  rcases ite_or hb with ⟨hc, hb⟩ | ⟨hc, hb⟩
  · refine ev_ift hc 5 (pc' := 19) (L' := [some (.inr (.inr 141)), some (.inl p1), some (.inl l2_1), some (.inl l3_2), some (.inl l4_3), dv o4]) (S' := []) (σ' := (SH L0, D)) (fun _ _ => rfl) ?_
    obtain ⟨t6, hv, hb⟩ := bnd hb
    have hJ : EvF mtab d k_X1_seekCaller 36 [some (.inr (.inr 141)), some (.inl p1), some (.inl l2_1), some (.inl l3_2), some (.inl l4_3), dv o4] [.inl t6] (SH L0, D) (some (.inl t0), (SH L0, D)) := by
      obtain ⟨⟨l2_7, l3_8⟩, hv, hb⟩ := bnd hb
      have hJ : EvF mtab d k_X1_seekCaller 50 [some (.inr (.inr 141)), some (.inl p1), some (.inl l2_7), some (.inl l3_8), some (.inl l4_3), some (.inl t6)] [] (SH L0, D) (some (.inl t0), (SH L0, D)) := by
        cases hb
        exact ev_go 2 (pc' := 7) (L' := [some (.inr (.inr 141)), some (.inl p1), some (.inl l2_7), some (.inl l3_8), some (.inl (w32 (l4_3 + 1))), some (.inl t6)]) (S' := []) (σ' := (SH L0, D)) (fun _ _ => rfl) (hK0 (some (.inl t6)))
      clear hb
      rcases ite_or hv with ⟨hc, hv⟩ | ⟨hc, hv⟩
      · refine ev_ift hc 4 (pc' := 44) (L' := [some (.inr (.inr 141)), some (.inl p1), some (.inl l2_1), some (.inl l3_2), some (.inl l4_3), some (.inl t6)]) (S' := []) (σ' := (SH L0, D)) (fun _ _ => rfl) ?_
        have he0 := Option.some.inj hv
        obtain ⟨ha0, he1⟩ := Prod.mk.inj he0
        clear he0
        subst ha0
        subst he1
        exact ev_go 4 (pc' := 50) (L' := [some (.inr (.inr 141)), some (.inl p1), some (.inl l4_3), some (.inl t6), some (.inl l4_3), some (.inl t6)]) (S' := []) (σ' := (SH L0, D)) (fun _ _ => rfl) hJ
      · refine ev_iff hc 4 (pc' := 50) (L' := [some (.inr (.inr 141)), some (.inl p1), some (.inl l2_1), some (.inl l3_2), some (.inl l4_3), some (.inl t6)]) (S' := []) (σ' := (SH L0, D)) (fun _ _ => rfl) ?_
        have he0 := Option.some.inj hv
        obtain ⟨ha0, he1⟩ := Prod.mk.inj he0
        clear he0
        subst ha0
        subst he1
        exact hJ
    clear hb
    rcases ite_or hv with ⟨hc, hv⟩ | ⟨hc, hv⟩
    · refine ev_ift hc 3 (pc' := 25) (L' := [some (.inr (.inr 141)), some (.inl p1), some (.inl l2_1), some (.inl l3_2), some (.inl l4_3), dv o4]) (S' := []) (σ' := (SH L0, D)) (fun _ _ => rfl) ?_
      have he0 := Option.some.inj hv
      subst he0
      exact ev_go 2 (pc' := 36) (L' := [some (.inr (.inr 141)), some (.inl p1), some (.inl l2_1), some (.inl l3_2), some (.inl l4_3), dv o4]) (S' := [.inl 0]) (σ' := (SH L0, D)) (fun _ _ => rfl) hJ
    · refine ev_iff hc 3 (pc' := 29) (L' := [some (.inr (.inr 141)), some (.inl p1), some (.inl l2_1), some (.inl l3_2), some (.inl l4_3), dv o4]) (S' := []) (σ' := (SH L0, D)) (fun _ _ => rfl) ?_
      obtain ⟨x5, hx, hv⟩ := bnd hv
      refine ev_call (e_X1_pull L0 d (by omega) hx) 4 (pc' := 36) (L' := [some (.inr (.inr 141)), some (.inl p1), some (.inl l2_1), some (.inl l3_2), some (.inl l4_3), dv o4]) (S' := []) (fun _ _ => rfl) ?_
      have he0 := Option.some.inj hv
      subst he0
      exact hJ
  · refine ev_iff hc 5 (pc' := 56) (L' := [some (.inr (.inr 141)), some (.inl p1), some (.inl l2_1), some (.inl l3_2), some (.inl l4_3), dv o4]) (S' := []) (σ' := (SH L0, D)) (fun _ _ => rfl) ?_
    cases hb
    exact hK0 (some (.inl l3_2)) (some (.inl l4_3)) o4
set_option maxRecDepth 100000 in
set_option maxHeartbeats 4000000 in
theorem e_X1_lastOf (L0 d : Nat) (hd : 1 ≤ d) {p1 : Int} {D : DT} {t0 : Int} (h : m_X1_lastOf p1 D = some t0) : Ret mtab d 18 [.inr (.inr 141), .inl p1] (SH L0, D) (some (.inl t0), (SH L0, D)) := by
  obtain ⟨d, rfl⟩ : ∃ e, d = e + 1 := ⟨d - 1, by omega⟩
  refine Ret.of (code := k_X1_lastOf) (ml := 4) rfl ?_
  show EvF mtab d k_X1_lastOf 0 [some (.inr (.inr 141)), some (.inl p1), none, none] [] (SH L0, D) (some (.inl t0), (SH L0, D))
  unfold m_X1_lastOf at h
  obtain ⟨r, hr, h⟩ := bnd h
  have hX : (fun (r : Int) => ∀ (o6 : Option (Sum Int Nat)), EvF mtab d k_X1_lastOf 33 [some (.inr (.inr 141)), some (.inl p1), some (.inl r), dv o6] [] (SH L0, D) (some (.inl t0), (SH L0, D))) r := by
    obtain ⟨l2_5, hre⟩ : ∃ q, q = r := ⟨r, rfl⟩
    subst hre
    intro o6
    show EvF mtab d k_X1_lastOf 33 [some (.inr (.inr 141)), some (.inl p1), some (.inl l2_5), dv o6] [] (SH L0, D) (some (.inl t0), (SH L0, D))
    cases h
    exact ev_ret 2 (fun _ _ => rfl)
  clear h
  refine ev_go 4 (pc' := 4) (L' := [some (.inr (.inr 141)), some (.inl p1), some (.inl p1), some (.inl 0)]) (S' := []) (σ' := (SH L0, D)) (fun _ _ => rfl) ?_
  refine loop_ind (P := fun s => EvF mtab d k_X1_lastOf 4 [some (.inr (.inr 141)), some (.inl p1), some (.inl s.1), some (.inl s.2)] [] (SH L0, D) (some (.inl t0), (SH L0, D))) (X := fun r => ∀ (o6 : Option (Sum Int Nat)), EvF mtab d k_X1_lastOf 33 [some (.inr (.inr 141)), some (.inl p1), some (.inl r), dv o6] [] (SH L0, D) (some (.inl t0), (SH L0, D))) hr hX ?_
  clear hr hX
  intro s t hb hK0
  obtain ⟨l2_1, l3_2⟩ := s
  show EvF mtab d k_X1_lastOf 4 [some (.inr (.inr 141)), some (.inl p1), some (.inl l2_1), some (.inl l3_2)] [] (SH L0, D) (some (.inl t0), (SH L0, D))
  unfold b_X1_lastOf_4 at hb
  rcases ite_or hb with ⟨hc, hb⟩ | ⟨hc, hb⟩
  · refine ev_ift hc 3 (pc' := 10) (L' := [some (.inr (.inr 141)), some (.inl p1), some (.inl l2_1), some (.inl l3_2)]) (S' := []) (σ' := (SH L0, D)) (fun _ _ => rfl) ?_
    obtain ⟨x3, hx, hb⟩ := bnd hb
    refine ev_bind hx 4 (pc' := 16) (L' := fun x3 => [some (.inr (.inr 141)), some (.inl p1), some (.inl l2_1), some (.inl l3_2)]) (S' := fun x3 => [.inl x3]) (σ' := fun x3 => (SH L0, D)) (fun _ _ => rfl) ?_
    rcases ite_or hb with ⟨hc, hb⟩ | ⟨hc, hb⟩
    · refine ev_ift hc 2 (pc' := 33) (L' := [some (.inr (.inr 141)), some (.inl p1), some (.inl l2_1), some (.inl l3_2)]) (S' := []) (σ' := (SH L0, D)) (fun _ _ => rfl) ?_
      cases hb
      exact hK0 (some (.inl l3_2))
    · refine ev_iff hc 2 (pc' := 20) (L' := [some (.inr (.inr 141)), some (.inl p1), some (.inl l2_1), some (.inl l3_2)]) (S' := []) (σ' := (SH L0, D)) (fun _ _ => rfl) ?_
      obtain ⟨x4, hx, hb⟩ := bnd hb
      refine ev_bind hx 4 (pc' := 26) (L' := fun x4 => [some (.inr (.inr 141)), some (.inl p1), some (.inl l2_1), some (.inl l3_2)]) (S' := fun x4 => [.inl x4]) (σ' := fun x4 => (SH L0, D)) (fun _ _ => rfl) ?_
      cases hb
      exact ev_go 3 (pc' := 4) (L' := [some (.inr (.inr 141)), some (.inl p1), some (.inl x4), some (.inl (w32 (l3_2 + 1)))]) (S' := []) (σ' := (SH L0, D)) (fun _ _ => rfl) hK0
  · refine ev_iff hc 3 (pc' := 33) (L' := [some (.inr (.inr 141)), some (.inl p1), some (.inl l2_1), some (.inl l3_2)]) (S' := []) (σ' := (SH L0, D)) (fun _ _ => rfl) ?_
    cases hb
    exact hK0 (some (.inl l3_2))
set_option maxRecDepth 100000 in
set_option maxHeartbeats 4000000 in
theorem e_X1_joinCaller (L0 d : Nat) (hd : 2 ≤ d) {p1 : Int} {D : DT} {t0 : DT} (h : m_X1_joinCaller p1 D = some t0) : Ret mtab d 17 [.inr (.inr 141), .inl p1] (SH L0, D) (none, (SH L0, t0)) := by
  obtain ⟨d, rfl⟩ : ∃ e, d = e + 1 := ⟨d - 1, by omega⟩
  refine Ret.of (code := k_X1_joinCaller) (ml := 6) rfl ?_
  show EvF mtab d k_X1_joinCaller 0 [some (.inr (.inr 141)), some (.inl p1), none, none, none, none] [] (SH L0, D) (none, (SH L0, t0))
  unfold m_X1_joinCaller at h
  obtain ⟨x1, hx, h⟩ := bnd h
  refine ev_bind hx 4 (pc' := 6) (L' := fun x1 => [some (.inr (.inr 141)), some (.inl p1), none, none, none, none]) (S' := fun x1 => [.inl x1]) (σ' := fun x1 => (SH L0, D)) (fun _ _ => rfl) ?_
  rcases ite_or h with ⟨hc, h⟩ | ⟨hc, h⟩
  · refine ev_ift hc 4 (pc' := 27) (L' := [some (.inr (.inr 141)), some (.inl p1), some (.inl x1), none, none, none]) (S' := []) (σ' := (SH L0, D)) (fun _ _ => rfl) ?_
    cases h
    exact ev_ret 1 (fun _ _ => rfl)
  · refine ev_iff hc 4 (pc' := 12) (L' := [some (.inr (.inr 141)), some (.inl p1), some (.inl x1), none, none, none]) (S' := []) (σ' := (SH L0, D)) (fun _ _ => rfl) ?_
    obtain ⟨x2, hx, h⟩ := bnd h
    refine ev_bind hx 4 (pc' := 18) (L' := fun x2 => [some (.inr (.inr 141)), some (.inl p1), some (.inl x1), none, none, none]) (S' := fun x2 => [.inl x2]) (σ' := fun x2 => (SH L0, D)) (fun _ _ => rfl) ?_
    obtain ⟨x3, hx, h⟩ := bnd h
    refine ev_bind hx 4 (pc' := 24) (L' := fun x3 => [some (.inr (.inr 141)), some (.inl p1), some (.inl x1), none, none, none]) (S' := fun x3 => [.inl x3, .inl x2]) (σ' := fun x3 => (SH L0, D)) (fun _ _ => rfl) ?_
    rcases ite_or h with ⟨hc, h⟩ | ⟨hc, h⟩
    · refine ev_ift hc 1 (pc' := 27) (L' := [some (.inr (.inr 141)), some (.inl p1), some (.inl x1), none, none, none]) (S' := []) (σ' := (SH L0, D)) (fun _ _ => rfl) ?_
      cases h
      exact ev_ret 1 (fun _ _ => rfl)
    · refine ev_iff hc 1 (pc' := 28) (L' := [some (.inr (.inr 141)), some (.inl p1), some (.inl x1), none, none, none]) (S' := []) (σ' := (SH L0, D)) (fun _ _ => rfl) ?_
      obtain ⟨x4, hx, h⟩ := bnd h
      refine ev_bind hx 4 (pc' := 34) (L' := fun x4 => [some (.inr (.inr 141)), some (.inl p1), some (.inl x1), none, none, none]) (S' := fun x4 => [.inl x4]) (σ' := fun x4 => (SH L0, D)) (fun _ _ => rfl) ?_
      obtain ⟨x5, hx, h⟩ := bnd h
      refine ev_bind hx 5 (pc' := 41) (L' := fun x5 => [some (.inr (.inr 141)), some (.inl p1), some (.inl x1), some (.inl x4), none, none]) (S' := fun x5 => [.inl x5]) (σ' := fun x5 => (SH L0, D)) (fun _ _ => rfl) ?_
      obtain ⟨x6, hx, h⟩ := bnd h
      refine ev_bind hx 5 (pc' := 49) (L' := fun x6 => [some (.inr (.inr 141)), some (.inl p1), some (.inl x1), some (.inl x4), some (.inl x5), none]) (S' := fun x6 => [.inl x6]) (σ' := fun x6 => (SH L0, D)) (fun _ _ => rfl) ?_
      obtain ⟨x7, hx, h⟩ := bnd h
      refine ev_bind hx 4 (pc' := 56) (L' := fun x7 => [some (.inr (.inr 141)), some (.inl p1), some (.inl x1), some (.inl x4), some (.inl x5), none]) (S' := fun x7 => [.inl x7, .inl x6]) (σ' := fun x7 => (SH L0, D)) (fun _ _ => rfl) ?_
      rcases ite_or h with ⟨hc, h⟩ | ⟨hc, h⟩
      · refine ev_ift hc 5 (pc' := 67) (L' := [some (.inr (.inr 141)), some (.inl p1), some (.inl x1), some (.inl x4), some (.inl x5), none]) (S' := []) (σ' := (SH L0, D)) (fun _ _ => rfl) ?_
        cases h
        exact ev_ret 1 (fun _ _ => rfl)
      · refine ev_iff hc 5 (pc' := 68) (L' := [some (.inr (.inr 141)), some (.inl p1), some (.inl x1), some (.inl x4), some (.inl x5), none]) (S' := []) (σ' := (SH L0, D)) (fun _ _ => rfl) ?_
        obtain ⟨x8, hx, h⟩ := bnd h
        refine ev_call (e_X1_lastOf L0 d (by omega) hx) 5 (pc' := 77) (L' := [some (.inr (.inr 141)), some (.inl p1), some (.inl x1), some (.inl x4), some (.inl x5), none]) (S' := [.inr (.inr 148)]) (fun _ _ => rfl) ?_
        obtain ⟨D9, hx, h⟩ := bnd h
        refine ev_bind hx 2 (pc' := 80) (L' := fun D9 => [some (.inr (.inr 141)), some (.inl p1), some (.inl x1), some (.inl x4), some (.inl x5), none]) (S' := fun D9 => []) (σ' := fun D9 => (SH L0, D9)) (fun _ _ => rfl) ?_
        obtain ⟨x10, hx, h⟩ := bnd h
        refine ev_bind hx 5 (pc' := 87) (L' := fun x10 => [some (.inr (.inr 141)), some (.inl p1), some (.inl x1), some (.inl x4), some (.inl x5), none]) (S' := fun x10 => [.inl x10, .inl x4, .inr (.inr 149)]) (σ' := fun x10 => (SH L0, D9)) (fun _ _ => rfl) ?_
        obtain ⟨x11, hx, h⟩ := bnd h
        refine ev_bind hx 4 (pc' := 94) (L' := fun x11 => [some (.inr (.inr 141)), some (.inl p1), some (.inl x1), some (.inl x4), some (.inl x5), none]) (S' := fun x11 => [.inl x11, .inl x10, .inl x4, .inr (.inr 149)]) (σ' := fun x11 => (SH L0, D9)) (fun _ _ => rfl) ?_
        obtain ⟨D12, hx, h⟩ := bnd h
        refine ev_bind hx 2 (pc' := 96) (L' := fun D12 => [some (.inr (.inr 141)), some (.inl p1), some (.inl x1), some (.inl x4), some (.inl x5), none]) (S' := fun D12 => []) (σ' := fun D12 => (SH L0, D12)) (fun _ _ => rfl) ?_
        obtain ⟨x13, hx, h⟩ := bnd h
        refine ev_bind hx 5 (pc' := 103) (L' := fun x13 => [some (.inr (.inr 141)), some (.inl p1), some (.inl x1), some (.inl x4), some (.inl x5), none]) (S' := fun x13 => [.inl x13, .inl x4, .inr (.inr 150)]) (σ' := fun x13 => (SH L0, D12)) (fun _ _ => rfl) ?_
        obtain ⟨x14, hx, h⟩ := bnd h
        refine ev_bind hx 4 (pc' := 110) (L' := fun x14 => [some (.inr (.inr 141)), some (.inl p1), some (.inl x1), some (.inl x4), some (.inl x5), none]) (S' := fun x14 => [.inl x14, .inl x13, .inl x4, .inr (.inr 150)]) (σ' := fun x14 => (SH L0, D12)) (fun _ _ => rfl) ?_
        obtain ⟨D15, hx, h⟩ := bnd h
        refine ev_bind hx 2 (pc' := 112) (L' := fun D15 => [some (.inr (.inr 141)), some (.inl p1), some (.inl x1), some (.inl x4), some (.inl x5), none]) (S' := fun D15 => []) (σ' := fun D15 => (SH L0, D15)) (fun _ _ => rfl) ?_
        obtain ⟨r, hr, h⟩ := bnd h
        have hX : (fun (r : DT) => ∀ (o21 : Option (Sum Int Nat)), EvF mtab d k_X1_joinCaller 153 [some (.inr (.inr 141)), some (.inl p1), some (.inl x1), some (.inl x4), some (.inl x5), dv o21] [] (SH L0, r) (none, (SH L0, t0))) r := by
          obtain ⟨D22, hre⟩ : ∃ q, q = r := ⟨r, rfl⟩
          subst hre
          intro o21
          show EvF mtab d k_X1_joinCaller 153 [some (.inr (.inr 141)), some (.inl p1), some (.inl x1), some (.inl x4), some (.inl x5), dv o21] [] (SH L0, D22) (none, (SH L0, t0))
          cases h
          exact ev_ret 1 (fun _ _ => rfl)
        clear h
        refine ev_go 2 (pc' := 115) (L' := [some (.inr (.inr 141)), some (.inl p1), some (.inl x1), some (.inl x4), some (.inl x5), some (.inl 0)]) (S' := []) (σ' := (SH L0, D15)) (fun _ _ => rfl) ?_
        refine loop_ind (P := fun s => EvF mtab d k_X1_joinCaller 115 [some (.inr (.inr 141)), some (.inl p1), some (.inl x1), some (.inl x4), some (.inl x5), some (.inl s.1)] [] (SH L0, s.2) (none, (SH L0, t0))) (X := fun r => ∀ (o21 : Option (Sum Int Nat)), EvF mtab d k_X1_joinCaller 153 [some (.inr (.inr 141)), some (.inl p1), some (.inl x1), some (.inl x4), some (.inl x5), dv o21] [] (SH L0, r) (none, (SH L0, t0))) hr hX ?_
        clear hr hX
        intro s t hb hK0
        obtain ⟨l5_16, D17⟩ := s
        show EvF mtab d k_X1_joinCaller 115 [some (.inr (.inr 141)), some (.inl p1), some (.inl x1), some (.inl x4), some (.inl x5), some (.inl l5_16)] [] (SH L0, D17) (none, (SH L0, t0))
        unfold b_X1_joinCaller_115 at hb
        rcases ite_or hb with ⟨hc, hb⟩ | ⟨hc, hb⟩
        · refine ev_ift hc 5 (pc' := 127) (L' := [some (.inr (.inr 141)), some (.inl p1), some (.inl x1), some (.inl x4), some (.inl x5), some (.inl l5_16)]) (S' := []) (σ' := (SH L0, D17)) (fun _ _ => rfl) ?_
          obtain ⟨x18, hx, hb⟩ := bnd hb
          refine ev_bind hx 4 (pc' := 134) (L' := fun x18 => [some (.inr (.inr 141)), some (.inl p1), some (.inl x1), some (.inl x4), some (.inl x5), some (.inl l5_16)]) (S' := fun x18 => [.inl x18]) (σ' := fun x18 => (SH L0, D17)) (fun _ _ => rfl) ?_
          obtain ⟨D20, hv, hb⟩ := bnd hb
          have hJ : EvF mtab d k_X1_joinCaller 147 [some (.inr (.inr 141)), some (.inl p1), some (.inl x1), some (.inl x4), some (.inl x5), some (.inl l5_16)] [] (SH L0, D20) (none, (SH L0, t0)) := by
            cases hb
            exact ev_go 2 (pc' := 115) (L' := [some (.inr (.inr 141)), some (.inl p1), some (.inl x1), some (.inl x4), some (.inl x5), some (.inl (w32 (l5_16 + 1)))]) (S' := []) (σ' := (SH L0, D20)) (fun _ _ => rfl) hK0
          clear hb
          rcases ite_or hv with ⟨hc, hv⟩ | ⟨hc, hv⟩
          · refine ev_ift hc 2 (pc' := 139) (L' := [some (.inr (.inr 141)), some (.inl p1), some (.inl x1), some (.inl x4), some (.inl x5), some (.inl l5_16)]) (S' := []) (σ' := (SH L0, D17)) (fun _ _ => rfl) ?_
            obtain ⟨D19, hx, hv⟩ := bnd hv
            refine ev_bind hx 5 (pc' := 147) (L' := fun D19 => [some (.inr (.inr 141)), some (.inl p1), some (.inl x1), some (.inl x4), some (.inl x5), some (.inl l5_16)]) (S' := fun D19 => []) (σ' := fun D19 => (SH L0, D19)) (fun _ _ => rfl) ?_
            have he0 := Option.some.inj hv
            subst he0
            exact hJ
          · refine ev_iff hc 2 (pc' := 147) (L' := [some (.inr (.inr 141)), some (.inl p1), some (.inl x1), some (.inl x4), some (.inl x5), some (.inl l5_16)]) (S' := []) (σ' := (SH L0, D17)) (fun _ _ => rfl) ?_
            have he0 := Option.some.inj hv
            subst he0
            exact hJ
        · refine ev_iff hc 5 (pc' := 153) (L' := [some (.inr (.inr 141)), some (.inl p1), some (.inl x1), some (.inl x4), some (.inl x5), some (.inl l5_16)]) (S' := []) (σ' := (SH L0, D17)) (fun _ _ => rfl) ?_
          cases hb
          exact hK0 (some (.inl l5_16))
set_option maxRecDepth 100000 in
set_option maxHeartbeats 4000000 in
theorem e_X1_isListed (L0 d : Nat) (hd : 1 ≤ d) {p1 : Int} {D : DT} {t0 : Int} (h : m_X1_isListed p1 D = some t0) : Ret mtab d 20 [.inr (.inr 141), .inl p1] (SH L0, D) (some (.inl t0), (SH L0, D)) := by
  obtain ⟨d, rfl⟩ : ∃ e, d = e + 1 := ⟨d - 1, by omega⟩
  refine Ret.of (code := k_X1_isListed) (ml := 3) rfl ?_
  show EvF mtab d k_X1_isListed 0 [some (.inr (.inr 141)), some (.inl p1), none] [] (SH L0, D) (some (.inl t0), (SH L0, D))
  unfold m_X1_isListed at h
  obtain ⟨r, hr, h⟩ := bnd h
  have hX : (fun (r : (Unit ⊕ Unit)) => match r with | .inl r => (∀ (o3 : Option (Sum Int Nat)), EvF mtab d k_X1_isListed 20 [some (.inr (.inr 141)), some (.inl p1), dv o3] [] (SH L0, D) (some (.inl t0), (SH L0, D))) | .inr r => (∀ (o4 : Option (Sum Int Nat)), EvF mtab d k_X1_isListed 28 [some (.inr (.inr 141)), some (.inl p1), dv o4] [] (SH L0, D) (some (.inl t0), (SH L0, D)))) r := by
    rcases r with r | r
    · skip
      intro o3
      show EvF mtab d k_X1_isListed 20 [some (.inr (.inr 141)), some (.inl p1), dv o3] [] (SH L0, D) (some (.inl t0), (SH L0, D))
      cases h
      exact ev_ret 2 (fun _ _ => rfl)
    intro o4
    show EvF mtab d k_X1_isListed 28 [some (.inr (.inr 141)), some (.inl p1), dv o4] [] (SH L0, D) (some (.inl t0), (SH L0, D))
    cases h
    exact ev_ret 2 (fun _ _ => rfl)
  clear h
  refine ev_go 2 (pc' := 2) (L' := [some (.inr (.inr 141)), some (.inl p1), some (.inl 0)]) (S' := []) (σ' := (SH L0, D)) (fun _ _ => rfl) ?_
  refine loop_ind (P := fun s => EvF mtab d k_X1_isListed 2 [some (.inr (.inr 141)), some (.inl p1), some (.inl s)] [] (SH L0, D) (some (.inl t0), (SH L0, D))) (X := fun r => match r with | .inl r => (∀ (o3 : Option (Sum Int Nat)), EvF mtab d k_X1_isListed 20 [some (.inr (.inr 141)), some (.inl p1), dv o3] [] (SH L0, D) (some (.inl t0), (SH L0, D))) | .inr r => (∀ (o4 : Option (Sum Int Nat)), EvF mtab d k_X1_isListed 28 [some (.inr (.inr 141)), some (.inl p1), dv o4] [] (SH L0, D) (some (.inl t0), (SH L0, D)))) hr hX ?_
  clear hr hX
  intro s t hb hK0
  obtain ⟨l2_1, hre⟩ : ∃ q, q = s := ⟨s, rfl⟩
  subst hre
  show EvF mtab d k_X1_isListed 2 [some (.inr (.inr 141)), some (.inl p1), some (.inl l2_1)] [] (SH L0, D) (some (.inl t0), (SH L0, D))
  unfold b_X1_isListed_2 at hb
  rcases ite_or hb with ⟨hc, hb⟩ | ⟨hc, hb⟩
  · refine ev_ift hc 4 (pc' := 10) (L' := [some (.inr (.inr 141)), some (.inl p1), some (.inl l2_1)]) (S' := []) (σ' := (SH L0, D)) (fun _ _ => rfl) ?_
    obtain ⟨x2, hx, hb⟩ := bnd hb
    refine ev_bind hx 4 (pc' := 16) (L' := fun x2 => [some (.inr (.inr 141)), some (.inl p1), some (.inl l2_1)]) (S' := fun x2 => [.inl x2]) (σ' := fun x2 => (SH L0, D)) (fun _ _ => rfl) ?_
    rcases ite_or hb with ⟨hc, hb⟩ | ⟨hc, hb⟩
    · refine ev_ift hc 2 (pc' := 20) (L' := [some (.inr (.inr 141)), some (.inl p1), some (.inl l2_1)]) (S' := []) (σ' := (SH L0, D)) (fun _ _ => rfl) ?_
      cases hb
      exact hK0 (some (.inl l2_1))
    · refine ev_iff hc 2 (pc' := 22) (L' := [some (.inr (.inr 141)), some (.inl p1), some (.inl l2_1)]) (S' := []) (σ' := (SH L0, D)) (fun _ _ => rfl) ?_
      cases hb
      exact ev_go 2 (pc' := 2) (L' := [some (.inr (.inr 141)), some (.inl p1), some (.inl (w32 (l2_1 + 1)))]) (S' := []) (σ' := (SH L0, D)) (fun _ _ => rfl) hK0
  · refine ev_iff hc 4 (pc' := 28) (L' := [some (.inr (.inr 141)), some (.inl p1), some (.inl l2_1)]) (S' := []) (σ' := (SH L0, D)) (fun _ _ => rfl) ?_
    cases hb
    exact hK0 (some (.inl l2_1))
