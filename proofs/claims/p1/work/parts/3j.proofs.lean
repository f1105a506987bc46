set_option maxRecDepth 100000 in
set_option maxHeartbeats 4000000 in
theorem e_X12_laysChained (L0 d : Nat) (hd : 6 ≤ d) {D : DT} {t0 : DT} (h : m_X12_laysChained  D = some t0) : Ret mtab d 214 [.inr (.inr 187)] (SH L0, D) (none, (SH L0, t0)) := by
  obtain ⟨d, rfl⟩ : ∃ e, d = e + 1 := ⟨d - 1, by omega⟩
  refine Ret.of (code := k_X12_laysChained) (ml := 3) rfl ?_
  show EvF mtab d k_X12_laysChained 0 [some (.inr (.inr 187)), none, none] [] (SH L0, D) (none, (SH L0, t0))
  unfold m_X12_laysChained at h
  obtain ⟨D1, hx, h⟩ := bnd h
  refine ev_call (e_X12_laysFlows L0 d (by omega) hx) 2 (pc' := 4) (L' := [some (.inr (.inr 187)), none, none]) (S' := []) (fun _ _ => rfl) ?_
  obtain ⟨r, hr, h⟩ := bnd h
  have hX : (fun (r : DT) => ∀ (o7 : Option (Sum Int Nat)), EvF mtab d k_X12_laysChained 27 [some (.inr (.inr 187)), dv o7, none] [] (SH L0, r) (none, (SH L0, t0))) r := by
    obtain ⟨D8, hre⟩ : ∃ q, q = r := ⟨r, rfl⟩
    subst hre
    intro o7
    show EvF mtab d k_X12_laysChained 27 [some (.inr (.inr 187)), dv o7, none] [] (SH L0, D8) (none, (SH L0, t0))
    obtain ⟨r, hr, h⟩ := bnd h
    have hX : (fun (r : DT) => ∀ (o16 : Option (Sum Int Nat)) (o17 : Option (Sum Int Nat)), EvF mtab d k_X12_laysChained 59 [some (.inr (.inr 187)), dv o16, dv o17] [] (SH L0, r) (none, (SH L0, t0))) r := by
      obtain ⟨D18, hre⟩ : ∃ q, q = r := ⟨r, rfl⟩
      subst hre
      intro o16 o17
      show EvF mtab d k_X12_laysChained 59 [some (.inr (.inr 187)), dv o16, dv o17] [] (SH L0, D18) (none, (SH L0, t0))
      obtain ⟨D19, hx, h⟩ := bnd h
      refine ev_call (e_X12_laysCold L0 d (by omega) hx) 2 (pc' := 63) (L' := [some (.inr (.inr 187)), dv o16, dv o17]) (S' := []) (fun _ _ => rfl) ?_
      obtain ⟨D20, hx, h⟩ := bnd h
      refine ev_call (e_X12_laysSource L0 d (by omega) hx) 2 (pc' := 67) (L' := [some (.inr (.inr 187)), dv o16, dv o17]) (S' := []) (fun _ _ => rfl) ?_
      obtain ⟨D21, hx, h⟩ := bnd h
      refine ev_call (e_X12_laysOrder_187_211 L0 d (by omega) hx) 5 (pc' := 76) (L' := [some (.inr (.inr 187)), dv o16, dv o17]) (S' := []) (fun _ _ => rfl) ?_
      cases h
      exact ev_ret 1 (fun _ _ => rfl)
    clear h
    refine ev_go 4 (pc' := 31) (L' := [some (.inr (.inr 187)), some (.inl 0), some (.inl 0)]) (S' := []) (σ' := (SH L0, D8)) (fun _ _ => rfl) ?_
    refine loop_ind (P := fun s => EvF mtab d k_X12_laysChained 31 [some (.inr (.inr 187)), some (.inl s.1), some (.inl s.2.1)] [] (SH L0, s.2.2) (none, (SH L0, t0))) (X := fun r => ∀ (o16 : Option (Sum Int Nat)) (o17 : Option (Sum Int Nat)), EvF mtab d k_X12_laysChained 59 [some (.inr (.inr 187)), dv o16, dv o17] [] (SH L0, r) (none, (SH L0, t0))) hr hX ?_
    clear hr hX
    intro s t hb hK0
    obtain ⟨l1_9, l2_10, D11⟩ := s
    show EvF mtab d k_X12_laysChained 31 [some (.inr (.inr 187)), some (.inl l1_9), some (.inl l2_10)] [] (SH L0, D11) (none, (SH L0, t0))
    unfold b_X12_laysChained_31 at hb
    obtain ⟨x12, hx, hb⟩ := bnd hb
    refine ev_call (e_X12_funs L0 d (by omega) hx) 3 (pc' := 36) (L' := [some (.inr (.inr 187)), some (.inl l1_9), some (.inl l2_10)]) (S' := [.inl l2_10]) (fun _ _ => rfl) ?_
    rcases ite_or hb with ⟨hc, hb⟩ | ⟨hc, hb⟩
    · refine ev_ift hc 1 (pc' := 39) (L' := [some (.inr (.inr 187)), some (.inl l1_9), some (.inl l2_10)]) (S' := []) (σ' := (SH L0, D11)) (fun _ _ => rfl) ?_
      obtain ⟨D13, hx, hb⟩ := bnd hb
      refine ev_bind hx 5 (pc' := 46) (L' := fun D13 => [some (.inr (.inr 187)), some (.inl l1_9), some (.inl l2_10)]) (S' := fun D13 => []) (σ' := fun D13 => (SH L0, D13)) (fun _ _ => rfl) ?_
      obtain ⟨⟨x14, D15⟩, hx, hb⟩ := bnd hb
      refine ev_call (e_X12_laysChains L0 d (by omega) hx) 4 (pc' := 52) (L' := [some (.inr (.inr 187)), some (.inl l1_9), some (.inl l2_10)]) (S' := []) (fun _ _ => rfl) ?_
      cases hb
      exact ev_go 3 (pc' := 31) (L' := [some (.inr (.inr 187)), some (.inl x14), some (.inl (w32 (l2_10 + 1)))]) (S' := []) (σ' := (SH L0, D15)) (fun _ _ => rfl) hK0
    · refine ev_iff hc 1 (pc' := 59) (L' := [some (.inr (.inr 187)), some (.inl l1_9), some (.inl l2_10)]) (S' := []) (σ' := (SH L0, D11)) (fun _ _ => rfl) ?_
      cases hb
      exact hK0 (some (.inl l1_9)) (some (.inl l2_10))
  clear h
  refine ev_go 2 (pc' := 6) (L' := [some (.inr (.inr 187)), some (.inl 0), none]) (S' := []) (σ' := (SH L0, D1)) (fun _ _ => rfl) ?_
  refine loop_ind (P := fun s => EvF mtab d k_X12_laysChained 6 [some (.inr (.inr 187)), some (.inl s.1), none] [] (SH L0, s.2) (none, (SH L0, t0))) (X := fun r => ∀ (o7 : Option (Sum Int Nat)), EvF mtab d k_X12_laysChained 27 [some (.inr (.inr 187)), dv o7, none] [] (SH L0, r) (none, (SH L0, t0))) hr hX ?_
  clear hr hX
  intro s t hb hK0
  obtain ⟨l1_2, D3⟩ := s
  show EvF mtab d k_X12_laysChained 6 [some (.inr (.inr 187)), some (.inl l1_2), none] [] (SH L0, D3) (none, (SH L0, t0))
  unfold b_X12_laysChained_6 at hb
  obtain ⟨x4, hx, hb⟩ := bnd hb
  refine ev_call (e_X12_arcs L0 d (by omega) hx) 3 (pc' := 11) (L' := [some (.inr (.inr 187)), some (.inl l1_2), none]) (S' := [.inl l1_2]) (fun _ _ => rfl) ?_
  rcases ite_or hb with ⟨hc, hb⟩ | ⟨hc, hb⟩
  · refine ev_ift hc 1 (pc' := 14) (L' := [some (.inr (.inr 187)), some (.inl l1_2), none]) (S' := []) (σ' := (SH L0, D3)) (fun _ _ => rfl) ?_
    obtain ⟨x5, hx, hb⟩ := bnd hb
    obtain ⟨D6, hy, hb⟩ := bnd hb
    refine ev_bind2 (Y := fun x5 => awr D3 194 88 l1_2 x5) hx hy 5 (pc' := 21) (L' := fun x5 D6 => [some (.inr (.inr 187)), some (.inl l1_2), none]) (S' := fun x5 D6 => []) (σ' := fun x5 D6 => (SH L0, D6)) (fun _ _ => rfl) ?_
    cases hb
    exact ev_go 2 (pc' := 6) (L' := [some (.inr (.inr 187)), some (.inl (w32 (l1_2 + 1))), none]) (S' := []) (σ' := (SH L0, D6)) (fun _ _ => rfl) hK0
  · refine ev_iff hc 1 (pc' := 27) (L' := [some (.inr (.inr 187)), some (.inl l1_2), none]) (S' := []) (σ' := (SH L0, D3)) (fun _ _ => rfl) ?_
    cases hb
    exact hK0 (some (.inl l1_2))
set_option maxRecDepth 100000 in
set_option maxHeartbeats 4000000 in
theorem e_X12_laysAll (L0 d : Nat) (hd : 7 ≤ d) {D : DT} {t0 : DT} (h : m_X12_laysAll  D = some t0) : Ret mtab d 215 [.inr (.inr 187)] (SH L0, D) (none, (SH L0, t0)) := by
  obtain ⟨d, rfl⟩ : ∃ e, d = e + 1 := ⟨d - 1, by omega⟩
  refine Ret.of (code := k_X12_laysAll) (ml := 2) rfl ?_
  show EvF mtab d k_X12_laysAll 0 [some (.inr (.inr 187)), none] [] (SH L0, D) (none, (SH L0, t0))
  unfold m_X12_laysAll at h
  obtain ⟨D1, hx, h⟩ := bnd h
  refine ev_call (e_X12_laysChained L0 d (by omega) hx) 2 (pc' := 4) (L' := [some (.inr (.inr 187)), none]) (S' := []) (fun _ _ => rfl) ?_
  obtain ⟨D2, hx, h⟩ := bnd h
  refine ev_call (e_X12_laysClusters L0 d (by omega) hx) 2 (pc' := 8) (L' := [some (.inr (.inr 187)), none]) (S' := []) (fun _ _ => rfl) ?_
  obtain ⟨D3, hx, h⟩ := bnd h
  refine ev_call (e_X12_laysStart L0 d (by omega) hx) 2 (pc' := 12) (L' := [some (.inr (.inr 187)), none]) (S' := []) (fun _ _ => rfl) ?_
  obtain ⟨D4, hx, h⟩ := bnd h
  refine ev_call (e_X12_laysOrder_187_206 L0 d (by omega) hx) 5 (pc' := 21) (L' := [some (.inr (.inr 187)), none]) (S' := []) (fun _ _ => rfl) ?_
  obtain ⟨D5, hx, h⟩ := bnd h
  refine ev_call (e_X12_laysOrder_187_207 L0 d (by omega) hx) 5 (pc' := 30) (L' := [some (.inr (.inr 187)), none]) (S' := []) (fun _ _ => rfl) ?_
  obtain ⟨r, hr, h⟩ := bnd h
  have hX : (fun (r : DT) => ∀ (o11 : Option (Sum Int Nat)), EvF mtab d k_X12_laysAll 66 [some (.inr (.inr 187)), dv o11] [] (SH L0, r) (none, (SH L0, t0))) r := by
    obtain ⟨D12, hre⟩ : ∃ q, q = r := ⟨r, rfl⟩
    subst hre
    intro o11
    show EvF mtab d k_X12_laysAll 66 [some (.inr (.inr 187)), dv o11] [] (SH L0, D12) (none, (SH L0, t0))
    cases h
    exact ev_ret 1 (fun _ _ => rfl)
  clear h
  refine ev_go 2 (pc' := 32) (L' := [some (.inr (.inr 187)), some (.inl 0)]) (S' := []) (σ' := (SH L0, D5)) (fun _ _ => rfl) ?_
  refine loop_ind (P := fun s => EvF mtab d k_X12_laysAll 32 [some (.inr (.inr 187)), some (.inl s.1)] [] (SH L0, s.2) (none, (SH L0, t0))) (X := fun r => ∀ (o11 : Option (Sum Int Nat)), EvF mtab d k_X12_laysAll 66 [some (.inr (.inr 187)), dv o11] [] (SH L0, r) (none, (SH L0, t0))) hr hX ?_
  clear hr hX
  intro s t hb hK0
  obtain ⟨l1_6, D7⟩ := s
  show EvF mtab d k_X12_laysAll 32 [some (.inr (.inr 187)), some (.inl l1_6)] [] (SH L0, D7) (none, (SH L0, t0))
  unfold b_X12_laysAll_32 at hb
  obtain ⟨x8, hx, hb⟩ := bnd hb
  refine ev_call (e_X12_blocks L0 d (by omega) hx) 3 (pc' := 37) (L' := [some (.inr (.inr 187)), some (.inl l1_6)]) (S' := [.inl l1_6]) (fun _ _ => rfl) ?_
  rcases ite_or hb with ⟨hc, hb⟩ | ⟨hc, hb⟩
  · refine ev_ift hc 1 (pc' := 40) (L' := [some (.inr (.inr 187)), some (.inl l1_6)]) (S' := []) (σ' := (SH L0, D7)) (fun _ _ => rfl) ?_
    obtain ⟨x9, hx, hb⟩ := bnd hb
    refine ev_bind hx 11 (pc' := 59) (L' := fun x9 => [some (.inr (.inr 187)), some (.inl l1_6)]) (S' := fun x9 => [.inl x9, .inl (w32 (160 + l1_6)), .inr (.inr 209)]) (σ' := fun x9 => (SH L0, D7)) (fun _ _ => rfl) ?_
    obtain ⟨D10, hx, hb⟩ := bnd hb
    refine ev_bind hx 1 (pc' := 60) (L' := fun D10 => [some (.inr (.inr 187)), some (.inl l1_6)]) (S' := fun D10 => []) (σ' := fun D10 => (SH L0, D10)) (fun _ _ => rfl) ?_
    cases hb
    exact ev_go 2 (pc' := 32) (L' := [some (.inr (.inr 187)), some (.inl (w32 (l1_6 + 1)))]) (S' := []) (σ' := (SH L0, D10)) (fun _ _ => rfl) hK0
  · refine ev_iff hc 1 (pc' := 66) (L' := [some (.inr (.inr 187)), some (.inl l1_6)]) (S' := []) (σ' := (SH L0, D7)) (fun _ _ => rfl) ?_
    cases hb
    exact hK0 (some (.inl l1_6))
set_option maxRecDepth 100000 in
set_option maxHeartbeats 4000000 in
theorem e_X12_falls (L0 d : Nat) (hd : 1 ≤ d) {p1 : Int} {D : DT} {t0 : Int} (h : m_X12_falls p1 D = some t0) : Ret mtab d 216 [.inr (.inr 187), .inl p1] (SH L0, D) (some (.inl t0), (SH L0, D)) := by
  obtain ⟨d, rfl⟩ : ∃ e, d = e + 1 := ⟨d - 1, by omega⟩
  refine Ret.of (code := k_X12_falls) (ml := 2) rfl ?_
  show EvF mtab d k_X12_falls 0 [some (.inr (.inr 187)), some (.inl p1)] [] (SH L0, D) (some (.inl t0), (SH L0, D))
  unfold m_X12_falls at h
  obtain ⟨x1, hx, h⟩ := bnd h
  refine ev_bind hx 6 (pc' := 10) (L' := fun x1 => [some (.inr (.inr 187)), some (.inl p1)]) (S' := fun x1 => [.inl x1]) (σ' := fun x1 => (SH L0, D)) (fun _ _ => rfl) ?_
  rcases ite_or h with ⟨hc, h⟩ | ⟨hc, h⟩
  · refine ev_ift hc 1 (pc' := 65) (L' := [some (.inr (.inr 187)), some (.inl p1)]) (S' := []) (σ' := (SH L0, D)) (fun _ _ => rfl) ?_
    cases h
    exact ev_ret 2 (fun _ _ => rfl)
  · refine ev_iff hc 1 (pc' := 13) (L' := [some (.inr (.inr 187)), some (.inl p1)]) (S' := []) (σ' := (SH L0, D)) (fun _ _ => rfl) ?_
    obtain ⟨x2, hx, h⟩ := bnd h
    refine ev_bind hx 6 (pc' := 23) (L' := fun x2 => [some (.inr (.inr 187)), some (.inl p1)]) (S' := fun x2 => [.inl x2]) (σ' := fun x2 => (SH L0, D)) (fun _ _ => rfl) ?_
    rcases ite_or h with ⟨hc, h⟩ | ⟨hc, h⟩
    · refine ev_ift hc 1 (pc' := 65) (L' := [some (.inr (.inr 187)), some (.inl p1)]) (S' := []) (σ' := (SH L0, D)) (fun _ _ => rfl) ?_
      cases h
      exact ev_ret 2 (fun _ _ => rfl)
    · refine ev_iff hc 1 (pc' := 26) (L' := [some (.inr (.inr 187)), some (.inl p1)]) (S' := []) (σ' := (SH L0, D)) (fun _ _ => rfl) ?_
      obtain ⟨x3, hx, h⟩ := bnd h
      refine ev_bind hx 8 (pc' := 40) (L' := fun x3 => [some (.inr (.inr 187)), some (.inl p1)]) (S' := fun x3 => [.inl x3, .inr (.inr 212)]) (σ' := fun x3 => (SH L0, D)) (fun _ _ => rfl) ?_
      obtain ⟨x4, hx, h⟩ := bnd h
      refine ev_bind hx 1 (pc' := 41) (L' := fun x4 => [some (.inr (.inr 187)), some (.inl p1)]) (S' := fun x4 => [.inl x4]) (σ' := fun x4 => (SH L0, D)) (fun _ _ => rfl) ?_
      obtain ⟨x5, hx, h⟩ := bnd h
      refine ev_bind hx 8 (pc' := 55) (L' := fun x5 => [some (.inr (.inr 187)), some (.inl p1)]) (S' := fun x5 => [.inl x5, .inr (.inr 212), .inl x4]) (σ' := fun x5 => (SH L0, D)) (fun _ _ => rfl) ?_
      obtain ⟨x6, hx, h⟩ := bnd h
      refine ev_bind hx 1 (pc' := 56) (L' := fun x6 => [some (.inr (.inr 187)), some (.inl p1)]) (S' := fun x6 => [.inl x6, .inl x4]) (σ' := fun x6 => (SH L0, D)) (fun _ _ => rfl) ?_
      rcases ite_or h with ⟨hc, h⟩ | ⟨hc, h⟩
      · refine ev_ift hc 3 (pc' := 61) (L' := [some (.inr (.inr 187)), some (.inl p1)]) (S' := []) (σ' := (SH L0, D)) (fun _ _ => rfl) ?_
        cases h
        exact ev_ret 3 (fun _ _ => rfl)
      · refine ev_iff hc 3 (pc' := 65) (L' := [some (.inr (.inr 187)), some (.inl p1)]) (S' := []) (σ' := (SH L0, D)) (fun _ _ => rfl) ?_
        cases h
        exact ev_ret 2 (fun _ _ => rfl)
set_option maxRecDepth 100000 in
set_option maxHeartbeats 4000000 in
theorem e_X12_anyFalls (L0 d : Nat) (hd : 3 ≤ d) {p1 : Int} {D : DT} {t0 : Int} (h : m_X12_anyFalls p1 D = some t0) : Ret mtab d 217 [.inr (.inr 187), .inl p1] (SH L0, D) (some (.inl t0), (SH L0, D)) := by
  obtain ⟨d, rfl⟩ : ∃ e, d = e + 1 := ⟨d - 1, by omega⟩
  refine Ret.of (code := k_X12_anyFalls) (ml := 3) rfl ?_
  show EvF mtab d k_X12_anyFalls 0 [some (.inr (.inr 187)), some (.inl p1), none] [] (SH L0, D) (some (.inl t0), (SH L0, D))
  unfold m_X12_anyFalls at h
  obtain ⟨r, hr, h⟩ := bnd h
  have hX : (fun (r : (Unit ⊕ Unit)) => match r with | .inl r => (∀ (o5 : Option (Sum Int Nat)), EvF mtab d k_X12_anyFalls 25 [some (.inr (.inr 187)), some (.inl p1), dv o5] [] (SH L0, D) (some (.inl t0), (SH L0, D))) | .inr r => (∀ (o6 : Option (Sum Int Nat)), EvF mtab d k_X12_anyFalls 33 [some (.inr (.inr 187)), some (.inl p1), dv o6] [] (SH L0, D) (some (.inl t0), (SH L0, D)))) r := by
    rcases r with r | r
    · skip
      intro o5
      show EvF mtab d k_X12_anyFalls 25 [some (.inr (.inr 187)), some (.inl p1), dv o5] [] (SH L0, D) (some (.inl t0), (SH L0, D))
      cases h
      exact ev_ret 2 (fun _ _ => rfl)
    intro o6
    show EvF mtab d k_X12_anyFalls 33 [some (.inr (.inr 187)), some (.inl p1), dv o6] [] (SH L0, D) (some (.inl t0), (SH L0, D))
    cases h
    exact ev_ret 2 (fun _ _ => rfl)
  clear h
  refine ev_go 2 (pc' := 2) (L' := [some (.inr (.inr 187)), some (.inl p1), some (.inl 0)]) (S' := []) (σ' := (SH L0, D)) (fun _ _ => rfl) ?_
  refine loop_ind (P := fun s => EvF mtab d k_X12_anyFalls 2 [some (.inr (.inr 187)), some (.inl p1), some (.inl s)] [] (SH L0, D) (some (.inl t0), (SH L0, D))) (X := fun r => match r with | .inl r => (∀ (o5 : Option (Sum Int Nat)), EvF mtab d k_X12_anyFalls 25 [some (.inr (.inr 187)), some (.inl p1), dv o5] [] (SH L0, D) (some (.inl t0), (SH L0, D))) | .inr r => (∀ (o6 : Option (Sum Int Nat)), EvF mtab d k_X12_anyFalls 33 [some (.inr (.inr 187)), some (.inl p1), dv o6] [] (SH L0, D) (some (.inl t0), (SH L0, D)))) hr hX ?_
  clear hr hX
  intro s t hb hK0
  obtain ⟨l2_1, hre⟩ : ∃ q, q = s := ⟨s, rfl⟩
  subst hre
  show EvF mtab d k_X12_anyFalls 2 [some (.inr (.inr 187)), some (.inl p1), some (.inl l2_1)] [] (SH L0, D) (some (.inl t0), (SH L0, D))
  unfold b_X12_anyFalls_2 at hb
  obtain ⟨x2, hx, hb⟩ := bnd hb
  refine ev_call (e_X12_arcsOf L0 d (by omega) hx) 4 (pc' := 8) (L' := [some (.inr (.inr 187)), some (.inl p1), some (.inl l2_1)]) (S' := [.inl l2_1]) (fun _ _ => rfl) ?_
  rcases ite_or hb with ⟨hc, hb⟩ | ⟨hc, hb⟩
  · refine ev_ift hc 1 (pc' := 11) (L' := [some (.inr (.inr 187)), some (.inl p1), some (.inl l2_1)]) (S' := []) (σ' := (SH L0, D)) (fun _ _ => rfl) ?_
    obtain ⟨x3, hx, hb⟩ := bnd hb
    refine ev_call (e_X12_firstArc L0 d (by omega) hx) 4 (pc' := 17) (L' := [some (.inr (.inr 187)), some (.inl p1), some (.inl l2_1)]) (S' := [.inr (.inr 187)]) (fun _ _ => rfl) ?_
    obtain ⟨x4, hx, hb⟩ := bnd hb
    refine ev_call (e_X12_falls L0 d (by omega) hx) 3 (pc' := 22) (L' := [some (.inr (.inr 187)), some (.inl p1), some (.inl l2_1)]) (S' := []) (fun _ _ => rfl) ?_
    rcases ite_or hb with ⟨hc, hb⟩ | ⟨hc, hb⟩
    · refine ev_ift hc 1 (pc' := 27) (L' := [some (.inr (.inr 187)), some (.inl p1), some (.inl l2_1)]) (S' := []) (σ' := (SH L0, D)) (fun _ _ => rfl) ?_
      cases hb
      exact ev_go 2 (pc' := 2) (L' := [some (.inr (.inr 187)), some (.inl p1), some (.inl (w32 (l2_1 + 1)))]) (S' := []) (σ' := (SH L0, D)) (fun _ _ => rfl) hK0
    · refine ev_iff hc 1 (pc' := 25) (L' := [some (.inr (.inr 187)), some (.inl p1), some (.inl l2_1)]) (S' := []) (σ' := (SH L0, D)) (fun _ _ => rfl) ?_
      cases hb
      exact hK0 (some (.inl l2_1))
  · refine ev_iff hc 1 (pc' := 33) (L' := [some (.inr (.inr 187)), some (.inl p1), some (.inl l2_1)]) (S' := []) (σ' := (SH L0, D)) (fun _ _ => rfl) ?_
    cases hb
    exact hK0 (some (.inl l2_1))
set_option maxRecDepth 100000 in
set_option maxHeartbeats 4000000 in
theorem e_X12_stands (L0 d : Nat) (hd : 4 ≤ d) {D : DT} {t0 : DT} (h : m_X12_stands  D = some t0) : Ret mtab d 218 [.inr (.inr 187)] (SH L0, D) (none, (SH L0, t0)) := by
  obtain ⟨d, rfl⟩ : ∃ e, d = e + 1 := ⟨d - 1, by omega⟩
  refine Ret.of (code := k_X12_stands) (ml := 4) rfl ?_
  show EvF mtab d k_X12_stands 0 [some (.inr (.inr 187)), none, none, none] [] (SH L0, D) (none, (SH L0, t0))
  unfold m_X12_stands at h
  obtain ⟨r, hr, h⟩ := bnd h
  have hX : (fun (r : DT) => ∀ (o6 : Option (Sum Int Nat)), EvF mtab d k_X12_stands 28 [some (.inr (.inr 187)), dv o6, none, none] [] (SH L0, r) (none, (SH L0, t0))) r := by
    obtain ⟨D7, hre⟩ : ∃ q, q = r := ⟨r, rfl⟩
    subst hre
    intro o6
    show EvF mtab d k_X12_stands 28 [some (.inr (.inr 187)), dv o6, none, none] [] (SH L0, D7) (none, (SH L0, t0))
    obtain ⟨r, hr, h⟩ := bnd h
    have hX : (fun (r : DT) => ∀ (o21 : Option (Sum Int Nat)) (o22 : Option (Sum Int Nat)) (o23 : Option (Sum Int Nat)), EvF mtab d k_X12_stands 106 [some (.inr (.inr 187)), dv o21, dv o22, dv o23] [] (SH L0, r) (none, (SH L0, t0))) r := by
      obtain ⟨D24, hre⟩ : ∃ q, q = r := ⟨r, rfl⟩
      subst hre
      intro o21 o22 o23
      show EvF mtab d k_X12_stands 106 [some (.inr (.inr 187)), dv o21, dv o22, dv o23] [] (SH L0, D24) (none, (SH L0, t0))
      cases h
      exact ev_ret 1 (fun _ _ => rfl)
    clear h
    refine ev_go 4 (pc' := 32) (L' := [some (.inr (.inr 187)), some (.inl 0), some (.inl 0), none]) (S' := []) (σ' := (SH L0, D7)) (fun _ _ => rfl) ?_
    refine loop_ind (P := fun s => ∀ (o10 : Option (Sum Int Nat)), EvF mtab d k_X12_stands 32 [some (.inr (.inr 187)), some (.inl s.1), some (.inl s.2.1), dv o10] [] (SH L0, s.2.2) (none, (SH L0, t0))) (X := fun r => ∀ (o21 : Option (Sum Int Nat)) (o22 : Option (Sum Int Nat)) (o23 : Option (Sum Int Nat)), EvF mtab d k_X12_stands 106 [some (.inr (.inr 187)), dv o21, dv o22, dv o23] [] (SH L0, r) (none, (SH L0, t0))) hr hX ?_ none
    clear hr hX
    intro s t hb hK0
    obtain ⟨l1_8, l2_9, D11⟩ := s
    intro o10
    show EvF mtab d k_X12_stands 32 [some (.inr (.inr 187)), some (.inl l1_8), some (.inl l2_9), dv o10] [] (SH L0, D11) (none, (SH L0, t0))
    unfold b_X12_stands_32 at hb
    obtain ⟨x12, hx, hb⟩ := bnd hb
    refine ev_call (e_X12_blocks L0 d (by omega) hx) 3 (pc' := 37) (L' := [some (.inr (.inr 187)), some (.inl l1_8), some (.inl l2_9), dv o10]) (S' := [.inl l2_9]) (fun _ _ => rfl) ?_
    rcases ite_or hb with ⟨hc, hb⟩ | ⟨hc, hb⟩
    · refine ev_ift hc 1 (pc' := 40) (L' := [some (.inr (.inr 187)), some (.inl l1_8), some (.inl l2_9), dv o10]) (S' := []) (σ' := (SH L0, D11)) (fun _ _ => rfl) ?_
      obtain ⟨x13, hx, hb⟩ := bnd hb
      refine ev_bind hx 4 (pc' := 46) (L' := fun x13 => [some (.inr (.inr 187)), some (.inl l1_8), some (.inl l2_9), dv o10]) (S' := fun x13 => [.inl x13]) (σ' := fun x13 => (SH L0, D11)) (fun _ _ => rfl) ?_
      obtain ⟨x14, hx, hb⟩ := bnd hb
      refine ev_bind hx 10 (pc' := 61) (L' := fun x14 => [some (.inr (.inr 187)), some (.inl l1_8), some (.inl l2_9), some (.inl x13)]) (S' := fun x14 => [.inl x14, .inl x13, .inr (.inr 214)]) (σ' := fun x14 => (SH L0, D11)) (fun _ _ => rfl) ?_
      obtain ⟨x15, hx, hb⟩ := bnd hb
      refine ev_call (e_X12_endOf L0 d (by omega) hx) 3 (pc' := 66) (L' := [some (.inr (.inr 187)), some (.inl l1_8), some (.inl l2_9), some (.inl x13)]) (S' := [.inl x14, .inl x13, .inr (.inr 214)]) (fun _ _ => rfl) ?_
      obtain ⟨t17, hv, hb⟩ := bnd hb
      have hJ : EvF mtab d k_X12_stands 82 [some (.inr (.inr 187)), some (.inl l1_8), some (.inl l2_9), some (.inl x13)] [.inl t17, .inl x14, .inl x13, .inr (.inr 214)] (SH L0, D11) (none, (SH L0, t0)) := by
        obtain ⟨D18, hx, hb⟩ := bnd hb
        refine ev_bind hx 2 (pc' := 84) (L' := fun D18 => [some (.inr (.inr 187)), some (.inl l1_8), some (.inl l2_9), some (.inl x13)]) (S' := fun D18 => []) (σ' := fun D18 => (SH L0, D18)) (fun _ _ => rfl) ?_
        obtain ⟨D19, hx, hb⟩ := bnd hb
        refine ev_bind hx 5 (pc' := 91) (L' := fun D19 => [some (.inr (.inr 187)), some (.inl l1_8), some (.inl l2_9), some (.inl x13)]) (S' := fun D19 => []) (σ' := fun D19 => (SH L0, D19)) (fun _ _ => rfl) ?_
        obtain ⟨x20, hx, hb⟩ := bnd hb
        refine ev_bind hx 5 (pc' := 98) (L' := fun x20 => [some (.inr (.inr 187)), some (.inl l1_8), some (.inl l2_9), some (.inl x13)]) (S' := fun x20 => [.inl x20, .inl l1_8]) (σ' := fun x20 => (SH L0, D19)) (fun _ _ => rfl) ?_
        cases hb
        exact ev_go 4 (pc' := 32) (L' := [some (.inr (.inr 187)), some (.inl (w32 (l1_8 + x20))), some (.inl (w32 (l2_9 + 1))), some (.inl x13)]) (S' := []) (σ' := (SH L0, D19)) (fun _ _ => rfl) (hK0 (some (.inl x13)))
      clear hb
      rcases ite_or hv with ⟨hc, hv⟩ | ⟨hc, hv⟩
      · refine ev_ift hc 1 (pc' := 81) (L' := [some (.inr (.inr 187)), some (.inl l1_8), some (.inl l2_9), some (.inl x13)]) (S' := [.inl x14, .inl x13, .inr (.inr 214)]) (σ' := (SH L0, D11)) (fun _ _ => rfl) ?_
        have he0 := Option.some.inj hv
        subst he0
        exact ev_go 1 (pc' := 82) (L' := [some (.inr (.inr 187)), some (.inl l1_8), some (.inl l2_9), some (.inl x13)]) (S' := [.inl 0, .inl x14, .inl x13, .inr (.inr 214)]) (σ' := (SH L0, D11)) (fun _ _ => rfl) hJ
      · refine ev_iff hc 1 (pc' := 69) (L' := [some (.inr (.inr 187)), some (.inl l1_8), some (.inl l2_9), some (.inl x13)]) (S' := [.inl x14, .inl x13, .inr (.inr 214)]) (σ' := (SH L0, D11)) (fun _ _ => rfl) ?_
        obtain ⟨x16, hx, hv⟩ := bnd hv
        refine ev_call (e_X12_anyFalls L0 d (by omega) hx) 3 (pc' := 74) (L' := [some (.inr (.inr 187)), some (.inl l1_8), some (.inl l2_9), some (.inl x13)]) (S' := [.inl x14, .inl x13, .inr (.inr 214)]) (fun _ _ => rfl) ?_
        rcases ite_or hv with ⟨hc, hv⟩ | ⟨hc, hv⟩
        · refine ev_ift hc 1 (pc' := 77) (L' := [some (.inr (.inr 187)), some (.inl l1_8), some (.inl l2_9), some (.inl x13)]) (S' := [.inl x14, .inl x13, .inr (.inr 214)]) (σ' := (SH L0, D11)) (fun _ _ => rfl) ?_
          have he0 := Option.some.inj hv
          subst he0
          exact ev_go 2 (pc' := 82) (L' := [some (.inr (.inr 187)), some (.inl l1_8), some (.inl l2_9), some (.inl x13)]) (S' := [.inl 2, .inl x14, .inl x13, .inr (.inr 214)]) (σ' := (SH L0, D11)) (fun _ _ => rfl) hJ
        · refine ev_iff hc 1 (pc' := 81) (L' := [some (.inr (.inr 187)), some (.inl l1_8), some (.inl l2_9), some (.inl x13)]) (S' := [.inl x14, .inl x13, .inr (.inr 214)]) (σ' := (SH L0, D11)) (fun _ _ => rfl) ?_
          have he0 := Option.some.inj hv
          subst he0
          exact ev_go 1 (pc' := 82) (L' := [some (.inr (.inr 187)), some (.inl l1_8), some (.inl l2_9), some (.inl x13)]) (S' := [.inl 0, .inl x14, .inl x13, .inr (.inr 214)]) (σ' := (SH L0, D11)) (fun _ _ => rfl) hJ
    · refine ev_iff hc 1 (pc' := 106) (L' := [some (.inr (.inr 187)), some (.inl l1_8), some (.inl l2_9), dv o10]) (S' := []) (σ' := (SH L0, D11)) (fun _ _ => rfl) ?_
      cases hb
      exact hK0 (some (.inl l1_8)) (some (.inl l2_9)) o10
  clear h
  refine ev_go 2 (pc' := 2) (L' := [some (.inr (.inr 187)), some (.inl 0), none, none]) (S' := []) (σ' := (SH L0, D)) (fun _ _ => rfl) ?_
  refine loop_ind (P := fun s => EvF mtab d k_X12_stands 2 [some (.inr (.inr 187)), some (.inl s.1), none, none] [] (SH L0, s.2) (none, (SH L0, t0))) (X := fun r => ∀ (o6 : Option (Sum Int Nat)), EvF mtab d k_X12_stands 28 [some (.inr (.inr 187)), dv o6, none, none] [] (SH L0, r) (none, (SH L0, t0))) hr hX ?_
  clear hr hX
  intro s t hb hK0
  obtain ⟨l1_1, D2⟩ := s
  show EvF mtab d k_X12_stands 2 [some (.inr (.inr 187)), some (.inl l1_1), none, none] [] (SH L0, D2) (none, (SH L0, t0))
  unfold b_X12_stands_2 at hb
  obtain ⟨x3, hx, hb⟩ := bnd hb
  refine ev_call (e_X12_blocks L0 d (by omega) hx) 3 (pc' := 7) (L' := [some (.inr (.inr 187)), some (.inl l1_1), none, none]) (S' := [.inl l1_1]) (fun _ _ => rfl) ?_
  rcases ite_or hb with ⟨hc, hb⟩ | ⟨hc, hb⟩
  · refine ev_ift hc 1 (pc' := 10) (L' := [some (.inr (.inr 187)), some (.inl l1_1), none, none]) (S' := []) (σ' := (SH L0, D2)) (fun _ _ => rfl) ?_
    obtain ⟨x4, hx, hb⟩ := bnd hb
    refine ev_bind hx 6 (pc' := 20) (L' := fun x4 => [some (.inr (.inr 187)), some (.inl l1_1), none, none]) (S' := fun x4 => [.inl x4, .inr (.inr 212)]) (σ' := fun x4 => (SH L0, D2)) (fun _ _ => rfl) ?_
    obtain ⟨D5, hx, hb⟩ := bnd hb
    refine ev_bind hx 2 (pc' := 22) (L' := fun D5 => [some (.inr (.inr 187)), some (.inl l1_1), none, none]) (S' := fun D5 => []) (σ' := fun D5 => (SH L0, D5)) (fun _ _ => rfl) ?_
    cases hb
    exact ev_go 2 (pc' := 2) (L' := [some (.inr (.inr 187)), some (.inl (w32 (l1_1 + 1))), none, none]) (S' := []) (σ' := (SH L0, D5)) (fun _ _ => rfl) hK0
  · refine ev_iff hc 1 (pc' := 28) (L' := [some (.inr (.inr 187)), some (.inl l1_1), none, none]) (S' := []) (σ' := (SH L0, D2)) (fun _ _ => rfl) ?_
    cases hb
    exact hK0 (some (.inl l1_1))
set_option maxRecDepth 100000 in
set_option maxHeartbeats 4000000 in
theorem e_X12_brings (L0 d : Nat) (hd : 5 ≤ d) {p1 : Int} {D : DT} {t0 : DT} (h : m_X12_brings p1 D = some t0) : Ret mtab d 219 [.inr (.inr 187), .inl p1] (SH L0, D) (none, (SH L0, t0)) := by
  obtain ⟨d, rfl⟩ : ∃ e, d = e + 1 := ⟨d - 1, by omega⟩
  refine Ret.of (code := k_X12_brings) (ml := 3) rfl ?_
  show EvF mtab d k_X12_brings 0 [some (.inr (.inr 187)), some (.inl p1), none] [] (SH L0, D) (none, (SH L0, t0))
  unfold m_X12_brings at h
  obtain ⟨r, hr, h⟩ := bnd h
  have hX : (fun (r : DT) => ∀ (o6 : Option (Sum Int Nat)), EvF mtab d k_X12_brings 33 [some (.inr (.inr 187)), some (.inl p1), dv o6] [] (SH L0, r) (none, (SH L0, t0))) r := by
    obtain ⟨D7, hre⟩ : ∃ q, q = r := ⟨r, rfl⟩
    subst hre
    intro o6
    show EvF mtab d k_X12_brings 33 [some (.inr (.inr 187)), some (.inl p1), dv o6] [] (SH L0, D7) (none, (SH L0, t0))
    obtain ⟨D8, hx, h⟩ := bnd h
    refine ev_call (e_X12_stands L0 d (by omega) hx) 2 (pc' := 37) (L' := [some (.inr (.inr 187)), some (.inl p1), dv o6]) (S' := []) (fun _ _ => rfl) ?_
    cases h
    exact ev_ret 1 (fun _ _ => rfl)
  clear h
  refine ev_go 2 (pc' := 2) (L' := [some (.inr (.inr 187)), some (.inl p1), some (.inl 0)]) (S' := []) (σ' := (SH L0, D)) (fun _ _ => rfl) ?_
  refine loop_ind (P := fun s => EvF mtab d k_X12_brings 2 [some (.inr (.inr 187)), some (.inl p1), some (.inl s.1)] [] (SH L0, s.2) (none, (SH L0, t0))) (X := fun r => ∀ (o6 : Option (Sum Int Nat)), EvF mtab d k_X12_brings 33 [some (.inr (.inr 187)), some (.inl p1), dv o6] [] (SH L0, r) (none, (SH L0, t0))) hr hX ?_
  clear hr hX
  intro s t hb hK0
  obtain ⟨l2_1, D2⟩ := s
  show EvF mtab d k_X12_brings 2 [some (.inr (.inr 187)), some (.inl p1), some (.inl l2_1)] [] (SH L0, D2) (none, (SH L0, t0))
  unfold b_X12_brings_2 at hb
  obtain ⟨x3, hx, hb⟩ := bnd hb
  refine ev_call (e_X12_blocks L0 d (by omega) hx) 3 (pc' := 7) (L' := [some (.inr (.inr 187)), some (.inl p1), some (.inl l2_1)]) (S' := [.inl l2_1]) (fun _ _ => rfl) ?_
  rcases ite_or hb with ⟨hc, hb⟩ | ⟨hc, hb⟩
  · refine ev_ift hc 1 (pc' := 10) (L' := [some (.inr (.inr 187)), some (.inl p1), some (.inl l2_1)]) (S' := []) (σ' := (SH L0, D2)) (fun _ _ => rfl) ?_
    obtain ⟨x4, hx, hb⟩ := bnd hb
    refine ev_bind hx 11 (pc' := 26) (L' := fun x4 => [some (.inr (.inr 187)), some (.inl p1), some (.inl l2_1)]) (S' := fun x4 => [.inl x4, .inl l2_1, .inr (.inr 215)]) (σ' := fun x4 => (SH L0, D2)) (fun _ _ => rfl) ?_
    obtain ⟨D5, hx, hb⟩ := bnd hb
    refine ev_bind hx 1 (pc' := 27) (L' := fun D5 => [some (.inr (.inr 187)), some (.inl p1), some (.inl l2_1)]) (S' := fun D5 => []) (σ' := fun D5 => (SH L0, D5)) (fun _ _ => rfl) ?_
    cases hb
    exact ev_go 2 (pc' := 2) (L' := [some (.inr (.inr 187)), some (.inl p1), some (.inl (w32 (l2_1 + 1)))]) (S' := []) (σ' := (SH L0, D5)) (fun _ _ => rfl) hK0
  · refine ev_iff hc 1 (pc' := 33) (L' := [some (.inr (.inr 187)), some (.inl p1), some (.inl l2_1)]) (S' := []) (σ' := (SH L0, D2)) (fun _ _ => rfl) ?_
    cases hb
    exact hK0 (some (.inl l2_1))
set_option maxRecDepth 100000 in
set_option maxHeartbeats 4000000 in
theorem e_X12_jumpsBy (L0 d : Nat) (hd : 3 ≤ d) {p1 : Int} {D : DT} {t0 : Int} (h : m_X12_jumpsBy p1 D = some t0) : Ret mtab d 220 [.inr (.inr 187), .inl p1] (SH L0, D) (some (.inl t0), (SH L0, D)) := by
  obtain ⟨d, rfl⟩ : ∃ e, d = e + 1 := ⟨d - 1, by omega⟩
  refine Ret.of (code := k_X12_jumpsBy) (ml := 4) rfl ?_
  show EvF mtab d k_X12_jumpsBy 0 [some (.inr (.inr 187)), some (.inl p1), none, none] [] (SH L0, D) (some (.inl t0), (SH L0, D))
  unfold m_X12_jumpsBy at h
  obtain ⟨x1, hx, h⟩ := bnd h
  refine ev_call (e_X12_funs L0 d (by omega) hx) 4 (pc' := 6) (L' := [some (.inr (.inr 187)), some (.inl p1), some (.inl 0), none]) (S' := []) (fun _ _ => rfl) ?_
  obtain ⟨r, hr, h⟩ := bnd h
  have hX : (fun (r : Int) => ∀ (o14 : Option (Sum Int Nat)), EvF mtab d k_X12_jumpsBy 67 [some (.inr (.inr 187)), some (.inl p1), some (.inl r), dv o14] [] (SH L0, D) (some (.inl t0), (SH L0, D))) r := by
    obtain ⟨l2_13, hre⟩ : ∃ q, q = r := ⟨r, rfl⟩
    subst hre
    intro o14
    show EvF mtab d k_X12_jumpsBy 67 [some (.inr (.inr 187)), some (.inl p1), some (.inl l2_13), dv o14] [] (SH L0, D) (some (.inl t0), (SH L0, D))
    cases h
    exact ev_ret 2 (fun _ _ => rfl)
  clear h
  refine ev_go 1 (pc' := 7) (L' := [some (.inr (.inr 187)), some (.inl p1), some (.inl 0), some (.inl x1)]) (S' := []) (σ' := (SH L0, D)) (fun _ _ => rfl) ?_
  refine loop_ind (P := fun s => EvF mtab d k_X12_jumpsBy 7 [some (.inr (.inr 187)), some (.inl p1), some (.inl s.1), some (.inl s.2)] [] (SH L0, D) (some (.inl t0), (SH L0, D))) (X := fun r => ∀ (o14 : Option (Sum Int Nat)), EvF mtab d k_X12_jumpsBy 67 [some (.inr (.inr 187)), some (.inl p1), some (.inl r), dv o14] [] (SH L0, D) (some (.inl t0), (SH L0, D))) hr hX ?_
  clear hr hX
  intro s t hb hK0
  obtain ⟨l2_2, l3_3⟩ := s
  show EvF mtab d k_X12_jumpsBy 7 [some (.inr (.inr 187)), some (.inl p1), some (.inl l2_2), some (.inl l3_3)] [] (SH L0, D) (some (.inl t0), (SH L0, D))
  unfold b_X12_jumpsBy_7 at hb
  obtain ⟨x4, hx, hb⟩ := bnd hb
  refine ev_call (e_X12_arcs L0 d (by omega) hx) 3 (pc' := 12) (L' := [some (.inr (.inr 187)), some (.inl p1), some (.inl l2_2), some (.inl l3_3)]) (S' := [.inl l3_3]) (fun _ _ => rfl) ?_
  rcases ite_or hb with ⟨hc, hb⟩ | ⟨hc, hb⟩
  · refine ev_ift hc 1 (pc' := 15) (L' := [some (.inr (.inr 187)), some (.inl p1), some (.inl l2_2), some (.inl l3_3)]) (S' := []) (σ' := (SH L0, D)) (fun _ _ => rfl) ?_
    obtain ⟨x5, hx, hb⟩ := bnd hb
    refine ev_bind hx 6 (pc' := 25) (L' := fun x5 => [some (.inr (.inr 187)), some (.inl p1), some (.inl l2_2), some (.inl l3_3)]) (S' := fun x5 => [.inl x5]) (σ' := fun x5 => (SH L0, D)) (fun _ _ => rfl) ?_
    obtain ⟨l2_12, hv, hb⟩ := bnd hb
    have hJ : EvF mtab d k_X12_jumpsBy 61 [some (.inr (.inr 187)), some (.inl p1), some (.inl l2_12), some (.inl l3_3)] [] (SH L0, D) (some (.inl t0), (SH L0, D)) := by
      cases hb
      exact ev_go 2 (pc' := 7) (L' := [some (.inr (.inr 187)), some (.inl p1), some (.inl l2_12), some (.inl (w32 (l3_3 + 1)))]) (S' := []) (σ' := (SH L0, D)) (fun _ _ => rfl) hK0
    clear hb
    rcases ite_or hv with ⟨hc, hv⟩ | ⟨hc, hv⟩
    · refine ev_ift hc 1 (pc' := 61) (L' := [some (.inr (.inr 187)), some (.inl p1), some (.inl l2_2), some (.inl l3_3)]) (S' := []) (σ' := (SH L0, D)) (fun _ _ => rfl) ?_
      have he0 := Option.some.inj hv
      subst he0
      exact hJ
    · refine ev_iff hc 1 (pc' := 28) (L' := [some (.inr (.inr 187)), some (.inl p1), some (.inl l2_2), some (.inl l3_3)]) (S' := []) (σ' := (SH L0, D)) (fun _ _ => rfl) ?_
      obtain ⟨x6, hx, hv⟩ := bnd hv
      refine ev_call (e_X12_falls L0 d (by omega) hx) 3 (pc' := 33) (L' := [some (.inr (.inr 187)), some (.inl p1), some (.inl l2_2), some (.inl l3_3)]) (S' := []) (fun _ _ => rfl) ?_
      rcases ite_or hv with ⟨hc, hv⟩ | ⟨hc, hv⟩
      · refine ev_ift hc 1 (pc' := 36) (L' := [some (.inr (.inr 187)), some (.inl p1), some (.inl l2_2), some (.inl l3_3)]) (S' := []) (σ' := (SH L0, D)) (fun _ _ => rfl) ?_
        rcases ite_or hv with ⟨hc, hv⟩ | ⟨hc, hv⟩
        · refine ev_ift hc 2 (pc' := 49) (L' := [some (.inr (.inr 187)), some (.inl p1), some (.inl l2_2), some (.inl l3_3)]) (S' := []) (σ' := (SH L0, D)) (fun _ _ => rfl) ?_
          obtain ⟨x7, hx, hv⟩ := bnd hv
          refine ev_bind hx 5 (pc' := 56) (L' := fun x7 => [some (.inr (.inr 187)), some (.inl p1), some (.inl l2_2), some (.inl l3_3)]) (S' := fun x7 => [.inl x7, .inl l2_2]) (σ' := fun x7 => (SH L0, D)) (fun _ _ => rfl) ?_
          obtain ⟨x8, hx, hv⟩ := bnd hv
          refine ev_call (e_X12_whole L0 d (by omega) hx) 1 (pc' := 59) (L' := [some (.inr (.inr 187)), some (.inl p1), some (.inl l2_2), some (.inl l3_3)]) (S' := [.inl l2_2]) (fun _ _ => rfl) ?_
          have he0 := Option.some.inj hv
          subst he0
          exact ev_go 2 (pc' := 61) (L' := [some (.inr (.inr 187)), some (.inl p1), some (.inl (w32 (l2_2 + x8))), some (.inl l3_3)]) (S' := []) (σ' := (SH L0, D)) (fun _ _ => rfl) hJ
        · refine ev_iff hc 2 (pc' := 40) (L' := [some (.inr (.inr 187)), some (.inl p1), some (.inl l2_2), some (.inl l3_3)]) (S' := []) (σ' := (SH L0, D)) (fun _ _ => rfl) ?_
          obtain ⟨x9, hx, hv⟩ := bnd hv
          refine ev_call (e_X12_funOfArc L0 d (by omega) hx) 3 (pc' := 45) (L' := [some (.inr (.inr 187)), some (.inl p1), some (.inl l2_2), some (.inl l3_3)]) (S' := []) (fun _ _ => rfl) ?_
          rcases ite_or hv with ⟨hc, hv⟩ | ⟨hc, hv⟩
          · refine ev_ift hc 2 (pc' := 49) (L' := [some (.inr (.inr 187)), some (.inl p1), some (.inl l2_2), some (.inl l3_3)]) (S' := []) (σ' := (SH L0, D)) (fun _ _ => rfl) ?_
            obtain ⟨x10, hx, hv⟩ := bnd hv
            refine ev_bind hx 5 (pc' := 56) (L' := fun x10 => [some (.inr (.inr 187)), some (.inl p1), some (.inl l2_2), some (.inl l3_3)]) (S' := fun x10 => [.inl x10, .inl l2_2]) (σ' := fun x10 => (SH L0, D)) (fun _ _ => rfl) ?_
            obtain ⟨x11, hx, hv⟩ := bnd hv
            refine ev_call (e_X12_whole L0 d (by omega) hx) 1 (pc' := 59) (L' := [some (.inr (.inr 187)), some (.inl p1), some (.inl l2_2), some (.inl l3_3)]) (S' := [.inl l2_2]) (fun _ _ => rfl) ?_
            have he0 := Option.some.inj hv
            subst he0
            exact ev_go 2 (pc' := 61) (L' := [some (.inr (.inr 187)), some (.inl p1), some (.inl (w32 (l2_2 + x11))), some (.inl l3_3)]) (S' := []) (σ' := (SH L0, D)) (fun _ _ => rfl) hJ
          · refine ev_iff hc 2 (pc' := 61) (L' := [some (.inr (.inr 187)), some (.inl p1), some (.inl l2_2), some (.inl l3_3)]) (S' := []) (σ' := (SH L0, D)) (fun _ _ => rfl) ?_
            have he0 := Option.some.inj hv
            subst he0
            exact hJ
      · refine ev_iff hc 1 (pc' := 61) (L' := [some (.inr (.inr 187)), some (.inl p1), some (.inl l2_2), some (.inl l3_3)]) (S' := []) (σ' := (SH L0, D)) (fun _ _ => rfl) ?_
        have he0 := Option.some.inj hv
        subst he0
        exact hJ
  · refine ev_iff hc 1 (pc' := 67) (L' := [some (.inr (.inr 187)), some (.inl p1), some (.inl l2_2), some (.inl l3_3)]) (S' := []) (σ' := (SH L0, D)) (fun _ _ => rfl) ?_
    cases hb
    exact hK0 (some (.inl l3_3))
set_option maxRecDepth 100000 in
set_option maxHeartbeats 4000000 in
theorem e_X12_allBytes (L0 d : Nat) (hd : 2 ≤ d) {D : DT} {t0 : Int} (h : m_X12_allBytes  D = some t0) : Ret mtab d 221 [.inr (.inr 187)] (SH L0, D) (some (.inl t0), (SH L0, D)) := by
  obtain ⟨d, rfl⟩ : ∃ e, d = e + 1 := ⟨d - 1, by omega⟩
  refine Ret.of (code := k_X12_allBytes) (ml := 3) rfl ?_
  show EvF mtab d k_X12_allBytes 0 [some (.inr (.inr 187)), none, none] [] (SH L0, D) (some (.inl t0), (SH L0, D))
  unfold m_X12_allBytes at h
  obtain ⟨r, hr, h⟩ := bnd h
  have hX : (fun (r : Int) => ∀ (o6 : Option (Sum Int Nat)), EvF mtab d k_X12_allBytes 27 [some (.inr (.inr 187)), some (.inl r), dv o6] [] (SH L0, D) (some (.inl t0), (SH L0, D))) r := by
    obtain ⟨l1_5, hre⟩ : ∃ q, q = r := ⟨r, rfl⟩
    subst hre
    intro o6
    show EvF mtab d k_X12_allBytes 27 [some (.inr (.inr 187)), some (.inl l1_5), dv o6] [] (SH L0, D) (some (.inl t0), (SH L0, D))
    cases h
    exact ev_ret 2 (fun _ _ => rfl)
  clear h
  refine ev_go 4 (pc' := 4) (L' := [some (.inr (.inr 187)), some (.inl 0), some (.inl 0)]) (S' := []) (σ' := (SH L0, D)) (fun _ _ => rfl) ?_
  refine loop_ind (P := fun s => EvF mtab d k_X12_allBytes 4 [some (.inr (.inr 187)), some (.inl s.1), some (.inl s.2)] [] (SH L0, D) (some (.inl t0), (SH L0, D))) (X := fun r => ∀ (o6 : Option (Sum Int Nat)), EvF mtab d k_X12_allBytes 27 [some (.inr (.inr 187)), some (.inl r), dv o6] [] (SH L0, D) (some (.inl t0), (SH L0, D))) hr hX ?_
  clear hr hX
  intro s t hb hK0
  obtain ⟨l1_1, l2_2⟩ := s
  show EvF mtab d k_X12_allBytes 4 [some (.inr (.inr 187)), some (.inl l1_1), some (.inl l2_2)] [] (SH L0, D) (some (.inl t0), (SH L0, D))
  unfold b_X12_allBytes_4 at hb
  obtain ⟨x3, hx, hb⟩ := bnd hb
  refine ev_call (e_X12_blocks L0 d (by omega) hx) 3 (pc' := 9) (L' := [some (.inr (.inr 187)), some (.inl l1_1), some (.inl l2_2)]) (S' := [.inl l2_2]) (fun _ _ => rfl) ?_
  rcases ite_or hb with ⟨hc, hb⟩ | ⟨hc, hb⟩
  · refine ev_ift hc 1 (pc' := 12) (L' := [some (.inr (.inr 187)), some (.inl l1_1), some (.inl l2_2)]) (S' := []) (σ' := (SH L0, D)) (fun _ _ => rfl) ?_
    obtain ⟨x4, hx, hb⟩ := bnd hb
    refine ev_bind hx 5 (pc' := 19) (L' := fun x4 => [some (.inr (.inr 187)), some (.inl l1_1), some (.inl l2_2)]) (S' := fun x4 => [.inl x4, .inl l1_1]) (σ' := fun x4 => (SH L0, D)) (fun _ _ => rfl) ?_
    cases hb
    exact ev_go 4 (pc' := 4) (L' := [some (.inr (.inr 187)), some (.inl (w32 (l1_1 + x4))), some (.inl (w32 (l2_2 + 1)))]) (S' := []) (σ' := (SH L0, D)) (fun _ _ => rfl) hK0
  · refine ev_iff hc 1 (pc' := 27) (L' := [some (.inr (.inr 187)), some (.inl l1_1), some (.inl l2_2)]) (S' := []) (σ' := (SH L0, D)) (fun _ _ => rfl) ?_
    cases hb
    exact hK0 (some (.inl l2_2))
set_option maxRecDepth 100000 in
set_option maxHeartbeats 4000000 in
theorem e_X12_firstPage (L0 d : Nat) (hd : 1 ≤ d) {p1 : Int} {D : DT} {t0 : Int} (h : m_X12_firstPage p1 D = some t0) : Ret mtab d 222 [.inr (.inr 187), .inl p1] (SH L0, D) (some (.inl t0), (SH L0, D)) := by
  obtain ⟨d, rfl⟩ : ∃ e, d = e + 1 := ⟨d - 1, by omega⟩
  refine Ret.of (code := k_X12_firstPage) (ml := 2) rfl ?_
  show EvF mtab d k_X12_firstPage 0 [some (.inr (.inr 187)), some (.inl p1)] [] (SH L0, D) (some (.inl t0), (SH L0, D))
  unfold m_X12_firstPage at h
  obtain ⟨x1, hx, h⟩ := bnd h
  refine ev_bind hx 4 (pc' := 6) (L' := fun x1 => [some (.inr (.inr 187)), some (.inl p1)]) (S' := fun x1 => [.inl x1]) (σ' := fun x1 => (SH L0, D)) (fun _ _ => rfl) ?_
  obtain ⟨x2, hx, h⟩ := bnd h
  refine ev_bind hx 4 (pc' := 12) (L' := fun x2 => [some (.inr (.inr 187)), some (.inl p1)]) (S' := fun x2 => [.inl x2, .inl x1]) (σ' := fun x2 => (SH L0, D)) (fun _ _ => rfl) ?_
  obtain ⟨x3, hx, h⟩ := bnd h
  refine ev_bind hx 1 (pc' := 13) (L' := fun x3 => [some (.inr (.inr 187)), some (.inl p1)]) (S' := fun x3 => [.inl x3]) (σ' := fun x3 => (SH L0, D)) (fun _ _ => rfl) ?_
  cases h
  exact ev_ret 1 (fun _ _ => rfl)
set_option maxRecDepth 100000 in
set_option maxHeartbeats 4000000 in
theorem e_X12_lastPage (L0 d : Nat) (hd : 1 ≤ d) {p1 : Int} {D : DT} {t0 : Int} (h : m_X12_lastPage p1 D = some t0) : Ret mtab d 223 [.inr (.inr 187), .inl p1] (SH L0, D) (some (.inl t0), (SH L0, D)) := by
  obtain ⟨d, rfl⟩ : ∃ e, d = e + 1 := ⟨d - 1, by omega⟩
  refine Ret.of (code := k_X12_lastPage) (ml := 2) rfl ?_
  show EvF mtab d k_X12_lastPage 0 [some (.inr (.inr 187)), some (.inl p1)] [] (SH L0, D) (some (.inl t0), (SH L0, D))
  unfold m_X12_lastPage at h
  obtain ⟨x1, hx, h⟩ := bnd h
  refine ev_bind hx 4 (pc' := 6) (L' := fun x1 => [some (.inr (.inr 187)), some (.inl p1)]) (S' := fun x1 => [.inl x1]) (σ' := fun x1 => (SH L0, D)) (fun _ _ => rfl) ?_
  obtain ⟨x2, hx, h⟩ := bnd h
  refine ev_bind hx 4 (pc' := 12) (L' := fun x2 => [some (.inr (.inr 187)), some (.inl p1)]) (S' := fun x2 => [.inl x2, .inl x1]) (σ' := fun x2 => (SH L0, D)) (fun _ _ => rfl) ?_
  obtain ⟨x3, hx, h⟩ := bnd h
  refine ev_bind hx 7 (pc' := 21) (L' := fun x3 => [some (.inr (.inr 187)), some (.inl p1)]) (S' := fun x3 => [.inl x3, .inl (w32 ((w32 (x1 + x2)) - 1))]) (σ' := fun x3 => (SH L0, D)) (fun _ _ => rfl) ?_
  obtain ⟨x4, hx, h⟩ := bnd h
  refine ev_bind hx 1 (pc' := 22) (L' := fun x4 => [some (.inr (.inr 187)), some (.inl p1)]) (S' := fun x4 => [.inl x4]) (σ' := fun x4 => (SH L0, D)) (fun _ _ => rfl) ?_
  cases h
  exact ev_ret 1 (fun _ _ => rfl)
set_option maxRecDepth 100000 in
set_option maxHeartbeats 4000000 in
theorem e_X12_lays (L0 d : Nat) (hd : 1 ≤ d) {p1 : Int} {D : DT} {t0 : DT} (h : m_X12_lays p1 D = some t0) : Ret mtab d 224 [.inr (.inr 187), .inl p1] (SH L0, D) (none, (SH L0, t0)) := by
  obtain ⟨d, rfl⟩ : ∃ e, d = e + 1 := ⟨d - 1, by omega⟩
  refine Ret.of (code := k_X12_lays) (ml := 3) rfl ?_
  show EvF mtab d k_X12_lays 0 [some (.inr (.inr 187)), some (.inl p1), none] [] (SH L0, D) (none, (SH L0, t0))
  unfold m_X12_lays at h
  obtain ⟨r, hr, h⟩ := bnd h
  have hX : (fun (r : DT) => ∀ (o4 : Option (Sum Int Nat)), EvF mtab d k_X12_lays 36 [some (.inr (.inr 187)), some (.inl p1), dv o4] [] (SH L0, r) (none, (SH L0, t0))) r := by
    obtain ⟨D5, hre⟩ : ∃ q, q = r := ⟨r, rfl⟩
    subst hre
    intro o4
    show EvF mtab d k_X12_lays 36 [some (.inr (.inr 187)), some (.inl p1), dv o4] [] (SH L0, D5) (none, (SH L0, t0))
    cases h
    exact ev_ret 1 (fun _ _ => rfl)
  clear h
  refine ev_go 2 (pc' := 3) (L' := [some (.inr (.inr 187)), some (.inl p1), some (.inl 24)]) (S' := []) (σ' := (SH L0, D)) (fun _ _ => rfl) ?_
  refine loop_ind (P := fun s => EvF mtab d k_X12_lays 3 [some (.inr (.inr 187)), some (.inl p1), some (.inl s.1)] [] (SH L0, s.2) (none, (SH L0, t0))) (X := fun r => ∀ (o4 : Option (Sum Int Nat)), EvF mtab d k_X12_lays 36 [some (.inr (.inr 187)), some (.inl p1), dv o4] [] (SH L0, r) (none, (SH L0, t0))) hr hX ?_
  clear hr hX
  intro s t hb hK0
  obtain ⟨l2_1, D2⟩ := s
  show EvF mtab d k_X12_lays 3 [some (.inr (.inr 187)), some (.inl p1), some (.inl l2_1)] [] (SH L0, D2) (none, (SH L0, t0))
  unfold b_X12_lays_3 at hb
  rcases ite_or hb with ⟨hc, hb⟩ | ⟨hc, hb⟩
  · refine ev_ift hc 2 (pc' := 36) (L' := [some (.inr (.inr 187)), some (.inl p1), some (.inl l2_1)]) (S' := []) (σ' := (SH L0, D2)) (fun _ _ => rfl) ?_
    cases hb
    exact hK0 (some (.inl l2_1))
  · refine ev_iff hc 2 (pc' := 7) (L' := [some (.inr (.inr 187)), some (.inl p1), some (.inl l2_1)]) (S' := []) (σ' := (SH L0, D2)) (fun _ _ => rfl) ?_
    obtain ⟨D3, hx, hb⟩ := bnd hb
    refine ev_bind hx 9 (pc' := 20) (L' := fun D3 => [some (.inr (.inr 187)), some (.inl p1), some (.inl l2_1)]) (S' := fun D3 => []) (σ' := fun D3 => (SH L0, D3)) (fun _ _ => rfl) ?_
    cases hb
    exact ev_go 8 (pc' := 3) (L' := [some (.inr (.inr 187)), some (.inl p1), some (.inl (w32 (l2_1 + (-8))))]) (S' := []) (σ' := (SH L0, dput D3 187 34 (w32 ((D3 187 34) + 1)))) (fun _ _ => rfl) hK0
set_option maxRecDepth 100000 in
set_option maxHeartbeats 4000000 in
theorem e_X12_feed (L0 d : Nat) (hd : 2 ≤ d) {p1 p2 p3 p4 p5 : Int} {D : DT} {t0 : (Int × DT)} (h : m_X12_feed p1 p2 p3 p4 p5 D = some t0) : Ret mtab d 225 [.inr (.inr 187), .inl p1, .inl p2, .inl p3, .inl p4, .inl p5] (SH L0, D) (some (.inl t0.1), (SH L0, t0.2)) := by
  obtain ⟨d, rfl⟩ : ∃ e, d = e + 1 := ⟨d - 1, by omega⟩
  refine Ret.of (code := k_X12_feed) (ml := 6) rfl ?_
  show EvF mtab d k_X12_feed 0 [some (.inr (.inr 187)), some (.inl p1), some (.inl p2), some (.inl p3), some (.inl p4), some (.inl p5)] [] (SH L0, D) (some (.inl t0.1), (SH L0, t0.2))
  unfold m_X12_feed at h
  rcases ite_or h with ⟨hc, h⟩ | ⟨hc, h⟩
  · refine ev_ift hc 9 (pc' := 18) (L' := [some (.inr (.inr 187)), some (.inl p1), some (.inl p2), some (.inl p3), some (.inl p4), some (.inl p5)]) (S' := []) (σ' := (SH L0, dput D 187 3 0)) (fun _ _ => rfl) ?_
    cases h
    exact ev_ret 2 (fun _ _ => rfl)
  · refine ev_iff hc 9 (pc' := 20) (L' := [some (.inr (.inr 187)), some (.inl p1), some (.inl p2), some (.inl p3), some (.inl p4), some (.inl p5)]) (S' := []) (σ' := (SH L0, dput D 187 3 0)) (fun _ _ => rfl) ?_
    obtain ⟨D1, hx, h⟩ := bnd h
    refine ev_call (e_X12_lays L0 d (by omega) hx) 3 (pc' := 25) (L' := [some (.inr (.inr 187)), some (.inl p1), some (.inl p2), some (.inl p3), some (.inl p4), some (.inl p5)]) (S' := []) (fun _ _ => rfl) ?_
    obtain ⟨D2, hx, h⟩ := bnd h
    refine ev_call (e_X12_lays L0 d (by omega) hx) 3 (pc' := 30) (L' := [some (.inr (.inr 187)), some (.inl p1), some (.inl p2), some (.inl p3), some (.inl p4), some (.inl p5)]) (S' := []) (fun _ _ => rfl) ?_
    obtain ⟨D3, hx, h⟩ := bnd h
    refine ev_call (e_X12_lays L0 d (by omega) hx) 3 (pc' := 35) (L' := [some (.inr (.inr 187)), some (.inl p1), some (.inl p2), some (.inl p3), some (.inl p4), some (.inl p5)]) (S' := []) (fun _ _ => rfl) ?_
    obtain ⟨D4, hx, h⟩ := bnd h
    refine ev_call (e_X12_lays L0 d (by omega) hx) 3 (pc' := 41) (L' := [some (.inr (.inr 187)), some (.inl p1), some (.inl p2), some (.inl p3), some (.inl p4), some (.inl p5)]) (S' := []) (fun _ _ => rfl) ?_
    obtain ⟨D5, hx, h⟩ := bnd h
    refine ev_call (e_X12_lays L0 d (by omega) hx) 3 (pc' := 47) (L' := [some (.inr (.inr 187)), some (.inl p1), some (.inl p2), some (.inl p3), some (.inl p4), some (.inl p5)]) (S' := []) (fun _ _ => rfl) ?_
    cases h
    exact ev_ret 3 (fun _ _ => rfl)
set_option maxRecDepth 100000 in
set_option maxHeartbeats 4000000 in
theorem e_X12_isOf (L0 d : Nat) (hd : 2 ≤ d) {p1 p2 p3 : Int} {D : DT} {t0 : Int} (h : m_X12_isOf p1 p2 p3 D = some t0) : Ret mtab d 226 [.inr (.inr 187), .inl p1, .inl p2, .inl p3] (SH L0, D) (some (.inl t0), (SH L0, D)) := by
  obtain ⟨d, rfl⟩ : ∃ e, d = e + 1 := ⟨d - 1, by omega⟩
  refine Ret.of (code := k_X12_isOf) (ml := 4) rfl ?_
  show EvF mtab d k_X12_isOf 0 [some (.inr (.inr 187)), some (.inl p1), some (.inl p2), some (.inl p3)] [] (SH L0, D) (some (.inl t0), (SH L0, D))
  unfold m_X12_isOf at h
  rcases ite_or h with ⟨hc, h⟩ | ⟨hc, h⟩
  · refine ev_ift hc 4 (pc' := 8) (L' := [some (.inr (.inr 187)), some (.inl p1), some (.inl p2), some (.inl p3)]) (S' := []) (σ' := (SH L0, D)) (fun _ _ => rfl) ?_
    obtain ⟨x1, hx, h⟩ := bnd h
    refine ev_bind hx 4 (pc' := 14) (L' := fun x1 => [some (.inr (.inr 187)), some (.inl p1), some (.inl p2), some (.inl p3)]) (S' := fun x1 => [.inl x1]) (σ' := fun x1 => (SH L0, D)) (fun _ _ => rfl) ?_
    obtain ⟨x2, hx, h⟩ := bnd h
    refine ev_call (e_X12_isIn L0 d (by omega) hx) 3 (pc' := 19) (L' := [some (.inr (.inr 187)), some (.inl p1), some (.inl p2), some (.inl p3)]) (S' := []) (fun _ _ => rfl) ?_
    rcases ite_or h with ⟨hc, h⟩ | ⟨hc, h⟩
    · refine ev_ift hc 1 (pc' := 26) (L' := [some (.inr (.inr 187)), some (.inl p1), some (.inl p2), some (.inl p3)]) (S' := []) (σ' := (SH L0, D)) (fun _ _ => rfl) ?_
      cases h
      exact ev_ret 2 (fun _ _ => rfl)
    · refine ev_iff hc 1 (pc' := 22) (L' := [some (.inr (.inr 187)), some (.inl p1), some (.inl p2), some (.inl p3)]) (S' := []) (σ' := (SH L0, D)) (fun _ _ => rfl) ?_
      cases h
      exact ev_ret 3 (fun _ _ => rfl)
  · refine ev_iff hc 4 (pc' := 26) (L' := [some (.inr (.inr 187)), some (.inl p1), some (.inl p2), some (.inl p3)]) (S' := []) (σ' := (SH L0, D)) (fun _ _ => rfl) ?_
    cases h
    exact ev_ret 2 (fun _ _ => rfl)
set_option maxRecDepth 100000 in
set_option maxHeartbeats 4000000 in
theorem e_X12_reads (L0 d : Nat) (hd : 3 ≤ d) {D : DT} {t0 : DT} (h : m_X12_reads  D = some t0) : Ret mtab d 227 [.inr (.inr 187)] (SH L0, D) (none, (SH L0, t0)) := by
  obtain ⟨d, rfl⟩ : ∃ e, d = e + 1 := ⟨d - 1, by omega⟩
  refine Ret.of (code := k_X12_reads) (ml := 1) rfl ?_
  show EvF mtab d k_X12_reads 0 [some (.inr (.inr 187))] [] (SH L0, D) (none, (SH L0, t0))
  unfold m_X12_reads at h
  obtain ⟨r, hr, h⟩ := bnd h
  have hX : (fun (r : DT) => EvF mtab d k_X12_reads 60 [some (.inr (.inr 187))] [] (SH L0, r) (none, (SH L0, t0))) r := by
    obtain ⟨D4, hre⟩ : ∃ q, q = r := ⟨r, rfl⟩
    subst hre
    show EvF mtab d k_X12_reads 60 [some (.inr (.inr 187))] [] (SH L0, D4) (none, (SH L0, t0))
    obtain ⟨t6, hv, h⟩ := bnd h
    have hJ : EvF mtab d k_X12_reads 105 [some (.inr (.inr 187))] [.inl t6, .inr (.inr 187)] (SH L0, dput D4 187 40 (w32 ((D4 187 39) + 1))) (none, (SH L0, t0)) := by
      obtain ⟨x7, hx, h⟩ := bnd h
      refine ev_call (e_X12_isOf L0 d (by omega) hx) 7 (pc' := 120) (L' := [some (.inr (.inr 187))]) (S' := []) (fun _ _ => rfl) ?_
      rcases ite_or h with ⟨hc, h⟩ | ⟨hc, h⟩
      · refine ev_ift hc 1 (pc' := 217) (L' := [some (.inr (.inr 187))]) (S' := []) (σ' := (SH L0, dput (dput D4 187 40 (w32 ((D4 187 39) + 1))) 187 41 t6)) (fun _ _ => rfl) ?_
        obtain ⟨x8, hx, h⟩ := bnd h
        refine ev_call (e_X12_isOf L0 d (by omega) hx) 6 (pc' := 229) (L' := [some (.inr (.inr 187))]) (S' := []) (fun _ _ => rfl) ?_
        rcases ite_or h with ⟨hc, h⟩ | ⟨hc, h⟩
        · refine ev_ift hc 1 (pc' := 339) (L' := [some (.inr (.inr 187))]) (S' := []) (σ' := (SH L0, dput (dput D4 187 40 (w32 ((D4 187 39) + 1))) 187 41 t6)) (fun _ _ => rfl) ?_
          cases h
          exact ev_ret 1 (fun _ _ => rfl)
        · refine ev_iff hc 1 (pc' := 232) (L' := [some (.inr (.inr 187))]) (S' := []) (σ' := (SH L0, dput (dput D4 187 40 (w32 ((D4 187 39) + 1))) 187 41 t6)) (fun _ _ => rfl) ?_
          obtain ⟨r, hr, h⟩ := bnd h
          have hX : (fun (r : DT) => EvF mtab d k_X12_reads 317 [some (.inr (.inr 187))] [] (SH L0, r) (none, (SH L0, t0))) r := by
            obtain ⟨D13, hre⟩ : ∃ q, q = r := ⟨r, rfl⟩
            subst hre
            show EvF mtab d k_X12_reads 317 [some (.inr (.inr 187))] [] (SH L0, D13) (none, (SH L0, t0))
            obtain ⟨t14, hv, h⟩ := bnd h
            have hJ : EvF mtab d k_X12_reads 336 [some (.inr (.inr 187))] [.inl t14, .inr (.inr 187)] (SH L0, D13) (none, (SH L0, t0)) := by
              cases h
              exact ev_ret 2 (fun _ _ => rfl)
            clear h
            rcases ite_or hv with ⟨hc, hv⟩ | ⟨hc, hv⟩
            · refine ev_ift hc 8 (pc' := 331) (L' := [some (.inr (.inr 187))]) (S' := [.inr (.inr 187)]) (σ' := (SH L0, D13)) (fun _ _ => rfl) ?_
              have he0 := Option.some.inj hv
              subst he0
              exact ev_go 2 (pc' := 336) (L' := [some (.inr (.inr 187))]) (S' := [.inl 4, .inr (.inr 187)]) (σ' := (SH L0, D13)) (fun _ _ => rfl) hJ
            · refine ev_iff hc 8 (pc' := 335) (L' := [some (.inr (.inr 187))]) (S' := [.inr (.inr 187)]) (σ' := (SH L0, D13)) (fun _ _ => rfl) ?_
              have he0 := Option.some.inj hv
              subst he0
              exact ev_go 1 (pc' := 336) (L' := [some (.inr (.inr 187))]) (S' := [.inl 2, .inr (.inr 187)]) (σ' := (SH L0, D13)) (fun _ _ => rfl) hJ
          clear h
          refine ev_go 7 (pc' := 245) (L' := [some (.inr (.inr 187))]) (S' := []) (σ' := (SH L0, dput (dput (dput (dput D4 187 40 (w32 ((D4 187 39) + 1))) 187 41 t6) 187 42 0) 187 40 ((dput (dput (dput D4 187 40 (w32 ((D4 187 39) + 1))) 187 41 t6) 187 42 0) 187 39))) (fun _ _ => rfl) ?_
          refine loop_ind (P := fun s => EvF mtab d k_X12_reads 245 [some (.inr (.inr 187))] [] (SH L0, s) (none, (SH L0, t0))) (X := fun r => EvF mtab d k_X12_reads 317 [some (.inr (.inr 187))] [] (SH L0, r) (none, (SH L0, t0))) hr hX ?_
          clear hr hX
          intro s t hb hK0
          obtain ⟨D9, hre⟩ : ∃ q, q = s := ⟨s, rfl⟩
          subst hre
          show EvF mtab d k_X12_reads 245 [some (.inr (.inr 187))] [] (SH L0, D9) (none, (SH L0, t0))
          unfold b_X12_reads_245 at hb
          obtain ⟨x10, hx, hb⟩ := bnd hb
          refine ev_call (e_X12_isOf L0 d (by omega) hx) 6 (pc' := 257) (L' := [some (.inr (.inr 187))]) (S' := []) (fun _ _ => rfl) ?_
          rcases ite_or hb with ⟨hc, hb⟩ | ⟨hc, hb⟩
          · refine ev_ift hc 1 (pc' := 317) (L' := [some (.inr (.inr 187))]) (S' := []) (σ' := (SH L0, D9)) (fun _ _ => rfl) ?_
            cases hb
            exact hK0
          · refine ev_iff hc 1 (pc' := 260) (L' := [some (.inr (.inr 187))]) (S' := []) (σ' := (SH L0, D9)) (fun _ _ => rfl) ?_
            obtain ⟨t12, hv, hb⟩ := bnd hb
            have hJ : EvF mtab d k_X12_reads 301 [some (.inr (.inr 187))] [.inl t12, .inr (.inr 187)] (SH L0, D9) (none, (SH L0, t0)) := by
              cases hb
              exact ev_go 8 (pc' := 245) (L' := [some (.inr (.inr 187))]) (S' := []) (σ' := (SH L0, dput (dput D9 187 42 t12) 187 40 (w32 (((dput D9 187 42 t12) 187 40) + 1)))) (fun _ _ => rfl) hK0
            clear hb
            rcases ite_or hv with ⟨hc, hv⟩ | ⟨hc, hv⟩
            · refine ev_ift hc 8 (pc' := 274) (L' := [some (.inr (.inr 187))]) (S' := [.inr (.inr 187)]) (σ' := (SH L0, D9)) (fun _ _ => rfl) ?_
              obtain ⟨x11, hx, hv⟩ := bnd hv
              refine ev_bind hx 9 (pc' := 290) (L' := fun x11 => [some (.inr (.inr 187))]) (S' := fun x11 => [.inl x11, .inl (w32 (10 * (D9 187 42))), .inr (.inr 187)]) (σ' := fun x11 => (SH L0, D9)) (fun _ _ => rfl) ?_
              have he0 := Option.some.inj hv
              subst he0
              exact ev_go 4 (pc' := 301) (L' := [some (.inr (.inr 187))]) (S' := [.inl (w32 ((w32 ((w32 (10 * (D9 187 42))) + x11)) - 48)), .inr (.inr 187)]) (σ' := (SH L0, D9)) (fun _ _ => rfl) hJ
            · refine ev_iff hc 8 (pc' := 297) (L' := [some (.inr (.inr 187))]) (S' := [.inr (.inr 187)]) (σ' := (SH L0, D9)) (fun _ _ => rfl) ?_
              have he0 := Option.some.inj hv
              subst he0
              exact ev_go 2 (pc' := 301) (L' := [some (.inr (.inr 187))]) (S' := [.inl (D9 187 42), .inr (.inr 187)]) (σ' := (SH L0, D9)) (fun _ _ => rfl) hJ
      · refine ev_iff hc 1 (pc' := 123) (L' := [some (.inr (.inr 187))]) (S' := []) (σ' := (SH L0, dput (dput D4 187 40 (w32 ((D4 187 39) + 1))) 187 41 t6)) (fun _ _ => rfl) ?_
        obtain ⟨r, hr, h⟩ := bnd h
        have hX : (fun (r : DT) => EvF mtab d k_X12_reads 339 [some (.inr (.inr 187))] [] (SH L0, r) (none, (SH L0, t0))) r := by
          obtain ⟨D19, hre⟩ : ∃ q, q = r := ⟨r, rfl⟩
          subst hre
          show EvF mtab d k_X12_reads 339 [some (.inr (.inr 187))] [] (SH L0, D19) (none, (SH L0, t0))
          cases h
          exact ev_ret 1 (fun _ _ => rfl)
        clear h
        refine ev_go 10 (pc' := 141) (L' := [some (.inr (.inr 187))]) (S' := []) (σ' := (SH L0, dput (dput (dput (dput (dput D4 187 40 (w32 ((D4 187 39) + 1))) 187 41 t6) 187 41 1) 187 44 0) 187 40 ((dput (dput (dput (dput D4 187 40 (w32 ((D4 187 39) + 1))) 187 41 t6) 187 41 1) 187 44 0) 187 39))) (fun _ _ => rfl) ?_
        refine loop_ind (P := fun s => EvF mtab d k_X12_reads 141 [some (.inr (.inr 187))] [] (SH L0, s) (none, (SH L0, t0))) (X := fun r => EvF mtab d k_X12_reads 339 [some (.inr (.inr 187))] [] (SH L0, r) (none, (SH L0, t0))) hr hX ?_
        clear hr hX
        intro s t hb hK0
        obtain ⟨D15, hre⟩ : ∃ q, q = s := ⟨s, rfl⟩
        subst hre
        show EvF mtab d k_X12_reads 141 [some (.inr (.inr 187))] [] (SH L0, D15) (none, (SH L0, t0))
        unfold b_X12_reads_141 at hb
        obtain ⟨x16, hx, hb⟩ := bnd hb
        refine ev_call (e_X12_isOf L0 d (by omega) hx) 6 (pc' := 153) (L' := [some (.inr (.inr 187))]) (S' := []) (fun _ _ => rfl) ?_
        rcases ite_or hb with ⟨hc, hb⟩ | ⟨hc, hb⟩
        · refine ev_ift hc 1 (pc' := 339) (L' := [some (.inr (.inr 187))]) (S' := []) (σ' := (SH L0, D15)) (fun _ _ => rfl) ?_
          cases hb
          exact hK0
        · refine ev_iff hc 1 (pc' := 156) (L' := [some (.inr (.inr 187))]) (S' := []) (σ' := (SH L0, D15)) (fun _ _ => rfl) ?_
          obtain ⟨t18, hv, hb⟩ := bnd hb
          have hJ : EvF mtab d k_X12_reads 201 [some (.inr (.inr 187))] [.inr (.inl t18), .inr (.inr 187)] (SH L0, D15) (none, (SH L0, t0)) := by
            cases hb
            exact ev_go 8 (pc' := 141) (L' := [some (.inr (.inr 187))]) (S' := []) (σ' := (SH L0, dput (dput D15 187 44 t18) 187 40 (w32 (((dput D15 187 44 t18) 187 40) + 1)))) (fun _ _ => rfl) hK0
          clear hb
          rcases ite_or hv with ⟨hc, hv⟩ | ⟨hc, hv⟩
          · refine ev_ift hc 8 (pc' := 171) (L' := [some (.inr (.inr 187))]) (S' := [.inr (.inr 187)]) (σ' := (SH L0, D15)) (fun _ _ => rfl) ?_
            obtain ⟨x17, hx, hv⟩ := bnd hv
            refine ev_bind hx 9 (pc' := 188) (L' := fun x17 => [some (.inr (.inr 187))]) (S' := fun x17 => [.inl x17, .inr (.inl (w64 (27 * (D15 187 44)))), .inr (.inr 187)]) (σ' := fun x17 => (SH L0, D15)) (fun _ _ => rfl) ?_
            have he0 := Option.some.inj hv
            subst he0
            exact ev_go 5 (pc' := 201) (L' := [some (.inr (.inr 187))]) (S' := [.inr (.inl (w64 ((w64 ((w64 (27 * (D15 187 44))) + x17)) - 96))), .inr (.inr 187)]) (σ' := (SH L0, D15)) (fun _ _ => rfl) hJ
          · refine ev_iff hc 8 (pc' := 197) (L' := [some (.inr (.inr 187))]) (S' := [.inr (.inr 187)]) (σ' := (SH L0, D15)) (fun _ _ => rfl) ?_
            have he0 := Option.some.inj hv
            subst he0
            exact ev_go 2 (pc' := 201) (L' := [some (.inr (.inr 187))]) (S' := [.inr (.inl (D15 187 44)), .inr (.inr 187)]) (σ' := (SH L0, D15)) (fun _ _ => rfl) hJ
    clear h
    rcases ite_or hv with ⟨hc, hv⟩ | ⟨hc, hv⟩
    · refine ev_ift hc 12 (pc' := 86) (L' := [some (.inr (.inr 187))]) (S' := [.inr (.inr 187)]) (σ' := (SH L0, dput D4 187 40 (w32 ((D4 187 39) + 1)))) (fun _ _ => rfl) ?_
      obtain ⟨x5, hx, hv⟩ := bnd hv
      refine ev_bind hx 5 (pc' := 95) (L' := fun x5 => [some (.inr (.inr 187))]) (S' := fun x5 => [.inl x5, .inr (.inr 187)]) (σ' := fun x5 => (SH L0, dput D4 187 40 (w32 ((D4 187 39) + 1)))) (fun _ _ => rfl) ?_
      rcases ite_or hv with ⟨hc, hv⟩ | ⟨hc, hv⟩
      · refine ev_ift hc 2 (pc' := 100) (L' := [some (.inr (.inr 187))]) (S' := [.inr (.inr 187)]) (σ' := (SH L0, dput D4 187 40 (w32 ((D4 187 39) + 1)))) (fun _ _ => rfl) ?_
        have he0 := Option.some.inj hv
        subst he0
        exact ev_go 2 (pc' := 105) (L' := [some (.inr (.inr 187))]) (S' := [.inl 3, .inr (.inr 187)]) (σ' := (SH L0, dput D4 187 40 (w32 ((D4 187 39) + 1)))) (fun _ _ => rfl) hJ
      · refine ev_iff hc 2 (pc' := 104) (L' := [some (.inr (.inr 187))]) (S' := [.inr (.inr 187)]) (σ' := (SH L0, dput D4 187 40 (w32 ((D4 187 39) + 1)))) (fun _ _ => rfl) ?_
        have he0 := Option.some.inj hv
        subst he0
        exact ev_go 1 (pc' := 105) (L' := [some (.inr (.inr 187))]) (S' := [.inl 4, .inr (.inr 187)]) (σ' := (SH L0, dput D4 187 40 (w32 ((D4 187 39) + 1)))) (fun _ _ => rfl) hJ
    · refine ev_iff hc 12 (pc' := 82) (L' := [some (.inr (.inr 187))]) (S' := [.inr (.inr 187)]) (σ' := (SH L0, dput D4 187 40 (w32 ((D4 187 39) + 1)))) (fun _ _ => rfl) ?_
      have he0 := Option.some.inj hv
      subst he0
      exact ev_go 2 (pc' := 105) (L' := [some (.inr (.inr 187))]) (S' := [.inl 0, .inr (.inr 187)]) (σ' := (SH L0, dput D4 187 40 (w32 ((D4 187 39) + 1)))) (fun _ _ => rfl) hJ
  clear h
  refine ev_go 4 (pc' := 8) (L' := [some (.inr (.inr 187))]) (S' := []) (σ' := (SH L0, dput D 187 39 (D 187 40))) (fun _ _ => rfl) ?_
  refine loop_ind (P := fun s => EvF mtab d k_X12_reads 8 [some (.inr (.inr 187))] [] (SH L0, s) (none, (SH L0, t0))) (X := fun r => EvF mtab d k_X12_reads 60 [some (.inr (.inr 187))] [] (SH L0, r) (none, (SH L0, t0))) hr hX ?_
  clear hr hX
  intro s t hb hK0
  obtain ⟨D1, hre⟩ : ∃ q, q = s := ⟨s, rfl⟩
  subst hre
  show EvF mtab d k_X12_reads 8 [some (.inr (.inr 187))] [] (SH L0, D1) (none, (SH L0, t0))
  unfold b_X12_reads_8 at hb
  rcases ite_or hb with ⟨hc, hb⟩ | ⟨hc, hb⟩
  · refine ev_ift hc 5 (pc' := 19) (L' := [some (.inr (.inr 187))]) (S' := []) (σ' := (SH L0, D1)) (fun _ _ => rfl) ?_
    obtain ⟨x2, hx, hb⟩ := bnd hb
    refine ev_bind hx 5 (pc' := 28) (L' := fun x2 => [some (.inr (.inr 187))]) (S' := fun x2 => [.inl x2]) (σ' := fun x2 => (SH L0, D1)) (fun _ _ => rfl) ?_
    rcases ite_or hb with ⟨hc, hb⟩ | ⟨hc, hb⟩
    · refine ev_ift hc 2 (pc' := 47) (L' := [some (.inr (.inr 187))]) (S' := []) (σ' := (SH L0, D1)) (fun _ _ => rfl) ?_
      cases hb
      exact ev_go 7 (pc' := 8) (L' := [some (.inr (.inr 187))]) (S' := []) (σ' := (SH L0, dput D1 187 39 (w32 ((D1 187 39) + 1)))) (fun _ _ => rfl) hK0
    · refine ev_iff hc 2 (pc' := 33) (L' := [some (.inr (.inr 187))]) (S' := []) (σ' := (SH L0, D1)) (fun _ _ => rfl) ?_
      obtain ⟨x3, hx, hb⟩ := bnd hb
      refine ev_bind hx 5 (pc' := 42) (L' := fun x3 => [some (.inr (.inr 187))]) (S' := fun x3 => [.inl x3]) (σ' := fun x3 => (SH L0, D1)) (fun _ _ => rfl) ?_
      rcases ite_or hb with ⟨hc, hb⟩ | ⟨hc, hb⟩
      · refine ev_ift hc 2 (pc' := 47) (L' := [some (.inr (.inr 187))]) (S' := []) (σ' := (SH L0, D1)) (fun _ _ => rfl) ?_
        cases hb
        exact ev_go 7 (pc' := 8) (L' := [some (.inr (.inr 187))]) (S' := []) (σ' := (SH L0, dput D1 187 39 (w32 ((D1 187 39) + 1)))) (fun _ _ => rfl) hK0
      · refine ev_iff hc 2 (pc' := 60) (L' := [some (.inr (.inr 187))]) (S' := []) (σ' := (SH L0, D1)) (fun _ _ => rfl) ?_
        cases hb
        exact hK0
  · refine ev_iff hc 5 (pc' := 60) (L' := [some (.inr (.inr 187))]) (S' := []) (σ' := (SH L0, D1)) (fun _ _ => rfl) ?_
    cases hb
    exact hK0
set_option maxRecDepth 100000 in
set_option maxHeartbeats 4000000 in
theorem e_X12_must (L0 d : Nat) (hd : 1 ≤ d) {p1 p2 : Int} {D : DT} {t0 : DT} (h : m_X12_must p1 p2 D = some t0) : Ret mtab d 228 [.inr (.inr 187), .inl p1, .inl p2] (SH L0, D) (none, (SH L0, t0)) := by
  obtain ⟨d, rfl⟩ : ∃ e, d = e + 1 := ⟨d - 1, by omega⟩
  refine Ret.of (code := k_X12_must) (ml := 3) rfl ?_
  show EvF mtab d k_X12_must 0 [some (.inr (.inr 187)), some (.inl p1), some (.inl p2)] [] (SH L0, D) (none, (SH L0, t0))
  unfold m_X12_must at h
  rcases ite_or h with ⟨hc, h⟩ | ⟨hc, h⟩
  · refine ev_ift hc 2 (pc' := 4) (L' := [some (.inr (.inr 187)), some (.inl p1), some (.inl p2)]) (S' := []) (σ' := (SH L0, D)) (fun _ _ => rfl) ?_
    rcases ite_or h with ⟨hc, h⟩ | ⟨hc, h⟩
    · refine ev_ift hc 3 (pc' := 11) (L' := [some (.inr (.inr 187)), some (.inl p1), some (.inl p2)]) (S' := []) (σ' := (SH L0, D)) (fun _ _ => rfl) ?_
      cases h
      exact ev_ret 1 (fun _ _ => rfl)
    · refine ev_iff hc 3 (pc' := 12) (L' := [some (.inr (.inr 187)), some (.inl p1), some (.inl p2)]) (S' := []) (σ' := (SH L0, D)) (fun _ _ => rfl) ?_
      obtain ⟨t1, hv, h⟩ := bnd h
      have hJ : EvF mtab d k_X12_must 31 [some (.inr (.inr 187)), some (.inl p1), some (.inl p2)] [.inl t1, .inr (.inr 187)] (SH L0, D) (none, (SH L0, t0)) := by
        cases h
        exact ev_ret 6 (fun _ _ => rfl)
      clear h
      rcases ite_or hv with ⟨hc, hv⟩ | ⟨hc, hv⟩
      · refine ev_ift hc 4 (pc' := 18) (L' := [some (.inr (.inr 187)), some (.inl p1), some (.inl p2)]) (S' := [.inr (.inr 187)]) (σ' := (SH L0, D)) (fun _ _ => rfl) ?_
        rcases ite_or hv with ⟨hc, hv⟩ | ⟨hc, hv⟩
        · refine ev_ift hc 4 (pc' := 26) (L' := [some (.inr (.inr 187)), some (.inl p1), some (.inl p2)]) (S' := [.inr (.inr 187)]) (σ' := (SH L0, D)) (fun _ _ => rfl) ?_
          have he0 := Option.some.inj hv
          subst he0
          exact ev_go 2 (pc' := 31) (L' := [some (.inr (.inr 187)), some (.inl p1), some (.inl p2)]) (S' := [.inl 1, .inr (.inr 187)]) (σ' := (SH L0, D)) (fun _ _ => rfl) hJ
        · refine ev_iff hc 4 (pc' := 30) (L' := [some (.inr (.inr 187)), some (.inl p1), some (.inl p2)]) (S' := [.inr (.inr 187)]) (σ' := (SH L0, D)) (fun _ _ => rfl) ?_
          have he0 := Option.some.inj hv
          subst he0
          exact ev_go 1 (pc' := 31) (L' := [some (.inr (.inr 187)), some (.inl p1), some (.inl p2)]) (S' := [.inl p2, .inr (.inr 187)]) (σ' := (SH L0, D)) (fun _ _ => rfl) hJ
      · refine ev_iff hc 4 (pc' := 30) (L' := [some (.inr (.inr 187)), some (.inl p1), some (.inl p2)]) (S' := [.inr (.inr 187)]) (σ' := (SH L0, D)) (fun _ _ => rfl) ?_
        have he0 := Option.some.inj hv
        subst he0
        exact ev_go 1 (pc' := 31) (L' := [some (.inr (.inr 187)), some (.inl p1), some (.inl p2)]) (S' := [.inl p2, .inr (.inr 187)]) (σ' := (SH L0, D)) (fun _ _ => rfl) hJ
  · refine ev_iff hc 2 (pc' := 11) (L' := [some (.inr (.inr 187)), some (.inl p1), some (.inl p2)]) (S' := []) (σ' := (SH L0, D)) (fun _ _ => rfl) ?_
    cases h
    exact ev_ret 1 (fun _ _ => rfl)
set_option maxRecDepth 100000 in
set_option maxHeartbeats 4000000 in
theorem e_X12_key (L0 d : Nat) (hd : 1 ≤ d) {D : DT} {t0 : Int} (h : m_X12_key  D = some t0) : Ret mtab d 229 [.inr (.inr 187)] (SH L0, D) (some (.inl t0), (SH L0, D)) := by
  obtain ⟨d, rfl⟩ : ∃ e, d = e + 1 := ⟨d - 1, by omega⟩
  refine Ret.of (code := k_X12_key) (ml := 2) rfl ?_
  show EvF mtab d k_X12_key 0 [some (.inr (.inr 187)), none] [] (SH L0, D) (some (.inl t0), (SH L0, D))
  unfold m_X12_key at h
  obtain ⟨r, hr, h⟩ := bnd h
  have hX : (fun (r : (Int ⊕ Unit)) => match r with | .inl r => (EvF mtab d k_X12_key 37 [some (.inr (.inr 187)), some (.inl r)] [] (SH L0, D) (some (.inl t0), (SH L0, D))) | .inr r => (∀ (o4 : Option (Sum Int Nat)), EvF mtab d k_X12_key 45 [some (.inr (.inr 187)), dv o4] [] (SH L0, D) (some (.inl t0), (SH L0, D)))) r := by
    rcases r with r | r
    · skip
      obtain ⟨l1_3, hre⟩ : ∃ q, q = r := ⟨r, rfl⟩
      subst hre
      show EvF mtab d k_X12_key 37 [some (.inr (.inr 187)), some (.inl l1_3)] [] (SH L0, D) (some (.inl t0), (SH L0, D))
      cases h
      exact ev_ret 2 (fun _ _ => rfl)
    intro o4
    show EvF mtab d k_X12_key 45 [some (.inr (.inr 187)), dv o4] [] (SH L0, D) (some (.inl t0), (SH L0, D))
    cases h
    exact ev_ret 2 (fun _ _ => rfl)
  clear h
  refine ev_go 2 (pc' := 2) (L' := [some (.inr (.inr 187)), some (.inl 0)]) (S' := []) (σ' := (SH L0, D)) (fun _ _ => rfl) ?_
  refine loop_ind (P := fun s => EvF mtab d k_X12_key 2 [some (.inr (.inr 187)), some (.inl s)] [] (SH L0, D) (some (.inl t0), (SH L0, D))) (X := fun r => match r with | .inl r => (EvF mtab d k_X12_key 37 [some (.inr (.inr 187)), some (.inl r)] [] (SH L0, D) (some (.inl t0), (SH L0, D))) | .inr r => (∀ (o4 : Option (Sum Int Nat)), EvF mtab d k_X12_key 45 [some (.inr (.inr 187)), dv o4] [] (SH L0, D) (some (.inl t0), (SH L0, D)))) hr hX ?_
  clear hr hX
  intro s t hb hK0
  obtain ⟨l1_1, hre⟩ : ∃ q, q = s := ⟨s, rfl⟩
  subst hre
  show EvF mtab d k_X12_key 2 [some (.inr (.inr 187)), some (.inl l1_1)] [] (SH L0, D) (some (.inl t0), (SH L0, D))
  unfold b_X12_key_2 at hb
  rcases ite_or hb with ⟨hc, hb⟩ | ⟨hc, hb⟩
  · refine ev_ift hc 3 (pc' := 8) (L' := [some (.inr (.inr 187)), some (.inl l1_1)]) (S' := []) (σ' := (SH L0, D)) (fun _ _ => rfl) ?_
    rcases ite_or hb with ⟨hc, hb⟩ | ⟨hc, hb⟩
    · refine ev_ift hc 4 (pc' := 16) (L' := [some (.inr (.inr 187)), some (.inl l1_1)]) (S' := []) (σ' := (SH L0, D)) (fun _ _ => rfl) ?_
      rcases ite_or hb with ⟨hc, hb⟩ | ⟨hc, hb⟩
      · refine ev_ift hc 3 (pc' := 23) (L' := [some (.inr (.inr 187)), some (.inl l1_1)]) (S' := []) (σ' := (SH L0, D)) (fun _ _ => rfl) ?_
        obtain ⟨x2, hx, hb⟩ := bnd hb
        refine ev_bind hx 4 (pc' := 29) (L' := fun x2 => [some (.inr (.inr 187)), some (.inl l1_1)]) (S' := fun x2 => [.inr (.inl x2)]) (σ' := fun x2 => (SH L0, D)) (fun _ _ => rfl) ?_
        rcases ite_or hb with ⟨hc, hb⟩ | ⟨hc, hb⟩
        · refine ev_ift hc 4 (pc' := 37) (L' := [some (.inr (.inr 187)), some (.inl l1_1)]) (S' := []) (σ' := (SH L0, D)) (fun _ _ => rfl) ?_
          cases hb
          exact hK0
        · refine ev_iff hc 4 (pc' := 39) (L' := [some (.inr (.inr 187)), some (.inl l1_1)]) (S' := []) (σ' := (SH L0, D)) (fun _ _ => rfl) ?_
          cases hb
          exact ev_go 2 (pc' := 2) (L' := [some (.inr (.inr 187)), some (.inl (w32 (l1_1 + 1)))]) (S' := []) (σ' := (SH L0, D)) (fun _ _ => rfl) hK0
      · refine ev_iff hc 3 (pc' := 45) (L' := [some (.inr (.inr 187)), some (.inl l1_1)]) (S' := []) (σ' := (SH L0, D)) (fun _ _ => rfl) ?_
        cases hb
        exact hK0 (some (.inl l1_1))
    · refine ev_iff hc 4 (pc' := 45) (L' := [some (.inr (.inr 187)), some (.inl l1_1)]) (S' := []) (σ' := (SH L0, D)) (fun _ _ => rfl) ?_
      cases hb
      exact hK0 (some (.inl l1_1))
  · refine ev_iff hc 3 (pc' := 45) (L' := [some (.inr (.inr 187)), some (.inl l1_1)]) (S' := []) (σ' := (SH L0, D)) (fun _ _ => rfl) ?_
    cases hb
    exact hK0 (some (.inl l1_1))
set_option maxRecDepth 100000 in
set_option maxHeartbeats 4000000 in
theorem e_X12_takesKey (L0 d : Nat) (hd : 4 ≤ d) {p1 : Int} {D : DT} {t0 : DT} (h : m_X12_takesKey p1 D = some t0) : Ret mtab d 230 [.inr (.inr 187), .inl p1] (SH L0, D) (none, (SH L0, t0)) := by
  obtain ⟨d, rfl⟩ : ∃ e, d = e + 1 := ⟨d - 1, by omega⟩
  refine Ret.of (code := k_X12_takesKey) (ml := 2) rfl ?_
  show EvF mtab d k_X12_takesKey 0 [some (.inr (.inr 187)), some (.inl p1)] [] (SH L0, D) (none, (SH L0, t0))
  unfold m_X12_takesKey at h
  obtain ⟨x1, hx, h⟩ := bnd h
  refine ev_call (e_X12_key L0 d (by omega) hx) 3 (pc' := 5) (L' := [some (.inr (.inr 187)), some (.inl p1)]) (S' := [.inr (.inr 187)]) (fun _ _ => rfl) ?_
  obtain ⟨t2, hv, h⟩ := bnd h
  have hJ : EvF mtab d k_X12_takesKey 14 [some (.inr (.inr 187)), some (.inl p1)] [.inl t2, .inr (.inr 187)] (SH L0, D) (none, (SH L0, t0)) := by
    obtain ⟨D3, hx, h⟩ := bnd h
    refine ev_call (e_X12_must L0 d (by omega) hx) 2 (pc' := 18) (L' := [some (.inr (.inr 187)), some (.inl p1)]) (S' := []) (fun _ _ => rfl) ?_
    rcases ite_or h with ⟨hc, h⟩ | ⟨hc, h⟩
    · refine ev_ift hc 3 (pc' := 25) (L' := [some (.inr (.inr 187)), some (.inl p1)]) (S' := []) (σ' := (SH L0, D3)) (fun _ _ => rfl) ?_
      obtain ⟨D4, hx, h⟩ := bnd h
      refine ev_call (e_X12_reads L0 d (by omega) hx) 2 (pc' := 29) (L' := [some (.inr (.inr 187)), some (.inl p1)]) (S' := []) (fun _ _ => rfl) ?_
      cases h
      exact ev_ret 1 (fun _ _ => rfl)
    · refine ev_iff hc 3 (pc' := 29) (L' := [some (.inr (.inr 187)), some (.inl p1)]) (S' := []) (σ' := (SH L0, D3)) (fun _ _ => rfl) ?_
      cases h
      exact ev_ret 1 (fun _ _ => rfl)
  clear h
  rcases ite_or hv with ⟨hc, hv⟩ | ⟨hc, hv⟩
  · refine ev_ift hc 2 (pc' := 9) (L' := [some (.inr (.inr 187)), some (.inl p1)]) (S' := [.inr (.inr 187)]) (σ' := (SH L0, D)) (fun _ _ => rfl) ?_
    have he0 := Option.some.inj hv
    subst he0
    exact ev_go 2 (pc' := 14) (L' := [some (.inr (.inr 187)), some (.inl p1)]) (S' := [.inl 1, .inr (.inr 187)]) (σ' := (SH L0, D)) (fun _ _ => rfl) hJ
  · refine ev_iff hc 2 (pc' := 13) (L' := [some (.inr (.inr 187)), some (.inl p1)]) (S' := [.inr (.inr 187)]) (σ' := (SH L0, D)) (fun _ _ => rfl) ?_
    have he0 := Option.some.inj hv
    subst he0
    exact ev_go 1 (pc' := 14) (L' := [some (.inr (.inr 187)), some (.inl p1)]) (S' := [.inl 0, .inr (.inr 187)]) (σ' := (SH L0, D)) (fun _ _ => rfl) hJ
set_option maxRecDepth 100000 in
set_option maxHeartbeats 4000000 in
theorem e_X12_takes (L0 d : Nat) (hd : 4 ≤ d) {p1 p2 : Int} {D : DT} {t0 : (Int × DT)} (h : m_X12_takes p1 p2 D = some t0) : Ret mtab d 231 [.inr (.inr 187), .inl p1, .inl p2] (SH L0, D) (some (.inl t0.1), (SH L0, t0.2)) := by
  obtain ⟨d, rfl⟩ : ∃ e, d = e + 1 := ⟨d - 1, by omega⟩
  refine Ret.of (code := k_X12_takes) (ml := 4) rfl ?_
  show EvF mtab d k_X12_takes 0 [some (.inr (.inr 187)), some (.inl p1), some (.inl p2), none] [] (SH L0, D) (some (.inl t0.1), (SH L0, t0.2))
  unfold m_X12_takes at h
  obtain ⟨t1, hv, h⟩ := bnd h
  have hJ : EvF mtab d k_X12_takes 14 [some (.inr (.inr 187)), some (.inl p1), some (.inl p2), none] [.inl t1, .inr (.inr 187)] (SH L0, D) (some (.inl t0.1), (SH L0, t0.2)) := by
    obtain ⟨D2, hx, h⟩ := bnd h
    refine ev_call (e_X12_must L0 d (by omega) hx) 2 (pc' := 18) (L' := [some (.inr (.inr 187)), some (.inl p1), some (.inl p2), none]) (S' := []) (fun _ _ => rfl) ?_
    obtain ⟨x3, hx, h⟩ := bnd h
    refine ev_call (e_X12_isIn L0 d (by omega) hx) 6 (pc' := 28) (L' := [some (.inr (.inr 187)), some (.inl p1), some (.inl p2), none]) (S' := [.inr (.inr 187)]) (fun _ _ => rfl) ?_
    obtain ⟨D4, hx, h⟩ := bnd h
    refine ev_call (e_X12_must L0 d (by omega) hx) 2 (pc' := 32) (L' := [some (.inr (.inr 187)), some (.inl p1), some (.inl p2), none]) (S' := []) (fun _ _ => rfl) ?_
    obtain ⟨D6, hv, h⟩ := bnd h
    have hJ : EvF mtab d k_X12_takes 48 [some (.inr (.inr 187)), some (.inl p1), some (.inl p2), some (.inl (D4 187 42))] [] (SH L0, D6) (some (.inl t0.1), (SH L0, t0.2)) := by
      cases h
      exact ev_ret 2 (fun _ _ => rfl)
    clear h
    rcases ite_or hv with ⟨hc, hv⟩ | ⟨hc, hv⟩
    · refine ev_ift hc 6 (pc' := 44) (L' := [some (.inr (.inr 187)), some (.inl p1), some (.inl p2), some (.inl (D4 187 42))]) (S' := []) (σ' := (SH L0, D4)) (fun _ _ => rfl) ?_
      obtain ⟨D5, hx, hv⟩ := bnd hv
      refine ev_call (e_X12_reads L0 d (by omega) hx) 2 (pc' := 48) (L' := [some (.inr (.inr 187)), some (.inl p1), some (.inl p2), some (.inl (D4 187 42))]) (S' := []) (fun _ _ => rfl) ?_
      have he0 := Option.some.inj hv
      subst he0
      exact hJ
    · refine ev_iff hc 6 (pc' := 48) (L' := [some (.inr (.inr 187)), some (.inl p1), some (.inl p2), some (.inl (D4 187 42))]) (S' := []) (σ' := (SH L0, D4)) (fun _ _ => rfl) ?_
      have he0 := Option.some.inj hv
      subst he0
      exact hJ
  clear h
  rcases ite_or hv with ⟨hc, hv⟩ | ⟨hc, hv⟩
  · refine ev_ift hc 5 (pc' := 9) (L' := [some (.inr (.inr 187)), some (.inl p1), some (.inl p2), none]) (S' := [.inr (.inr 187)]) (σ' := (SH L0, D)) (fun _ _ => rfl) ?_
    have he0 := Option.some.inj hv
    subst he0
    exact ev_go 2 (pc' := 14) (L' := [some (.inr (.inr 187)), some (.inl p1), some (.inl p2), none]) (S' := [.inl 1, .inr (.inr 187)]) (σ' := (SH L0, D)) (fun _ _ => rfl) hJ
  · refine ev_iff hc 5 (pc' := 13) (L' := [some (.inr (.inr 187)), some (.inl p1), some (.inl p2), none]) (S' := [.inr (.inr 187)]) (σ' := (SH L0, D)) (fun _ _ => rfl) ?_
    have he0 := Option.some.inj hv
    subst he0
    exact ev_go 1 (pc' := 14) (L' := [some (.inr (.inr 187)), some (.inl p1), some (.inl p2), none]) (S' := [.inl 0, .inr (.inr 187)]) (σ' := (SH L0, D)) (fun _ _ => rfl) hJ
set_option maxRecDepth 100000 in
set_option maxHeartbeats 4000000 in
theorem e_X12_isName (L0 d : Nat) (hd : 2 ≤ d) {D : DT} {t0 : Int} (h : m_X12_isName  D = some t0) : Ret mtab d 232 [.inr (.inr 187)] (SH L0, D) (some (.inl t0), (SH L0, D)) := by
  obtain ⟨d, rfl⟩ : ∃ e, d = e + 1 := ⟨d - 1, by omega⟩
  refine Ret.of (code := k_X12_isName) (ml := 1) rfl ?_
  show EvF mtab d k_X12_isName 0 [some (.inr (.inr 187))] [] (SH L0, D) (some (.inl t0), (SH L0, D))
  unfold m_X12_isName at h
  rcases ite_or h with ⟨hc, h⟩ | ⟨hc, h⟩
  · refine ev_ift hc 4 (pc' := 8) (L' := [some (.inr (.inr 187))]) (S' := []) (σ' := (SH L0, D)) (fun _ _ => rfl) ?_
    rcases ite_or h with ⟨hc, h⟩ | ⟨hc, h⟩
    · refine ev_ift hc 7 (pc' := 33) (L' := [some (.inr (.inr 187))]) (S' := []) (σ' := (SH L0, D)) (fun _ _ => rfl) ?_
      cases h
      exact ev_ret 2 (fun _ _ => rfl)
    · refine ev_iff hc 7 (pc' := 22) (L' := [some (.inr (.inr 187))]) (S' := []) (σ' := (SH L0, D)) (fun _ _ => rfl) ?_
      obtain ⟨x1, hx, h⟩ := bnd h
      refine ev_call (e_X12_key L0 d (by omega) hx) 2 (pc' := 26) (L' := [some (.inr (.inr 187))]) (S' := []) (fun _ _ => rfl) ?_
      rcases ite_or h with ⟨hc, h⟩ | ⟨hc, h⟩
      · refine ev_ift hc 1 (pc' := 29) (L' := [some (.inr (.inr 187))]) (S' := []) (σ' := (SH L0, D)) (fun _ _ => rfl) ?_
        cases h
        exact ev_ret 3 (fun _ _ => rfl)
      · refine ev_iff hc 1 (pc' := 33) (L' := [some (.inr (.inr 187))]) (S' := []) (σ' := (SH L0, D)) (fun _ _ => rfl) ?_
        cases h
        exact ev_ret 2 (fun _ _ => rfl)
  · refine ev_iff hc 4 (pc' := 33) (L' := [some (.inr (.inr 187))]) (S' := []) (σ' := (SH L0, D)) (fun _ _ => rfl) ?_
    cases h
    exact ev_ret 2 (fun _ _ => rfl)
set_option maxRecDepth 100000 in
set_option maxHeartbeats 4000000 in
theorem e_X12_named (L0 d : Nat) (hd : 1 ≤ d) {D : DT} {t0 : Int} (h : m_X12_named  D = some t0) : Ret mtab d 233 [.inr (.inr 187)] (SH L0, D) (some (.inl t0), (SH L0, D)) := by
  obtain ⟨d, rfl⟩ : ∃ e, d = e + 1 := ⟨d - 1, by omega⟩
  refine Ret.of (code := k_X12_named) (ml := 2) rfl ?_
  show EvF mtab d k_X12_named 0 [some (.inr (.inr 187)), none] [] (SH L0, D) (some (.inl t0), (SH L0, D))
  unfold m_X12_named at h
  obtain ⟨r, hr, h⟩ := bnd h
  have hX : (fun (r : (Int ⊕ Unit)) => match r with | .inl r => (EvF mtab d k_X12_named 28 [some (.inr (.inr 187)), some (.inl r)] [] (SH L0, D) (some (.inl t0), (SH L0, D))) | .inr r => (∀ (o5 : Option (Sum Int Nat)), EvF mtab d k_X12_named 36 [some (.inr (.inr 187)), dv o5] [] (SH L0, D) (some (.inl t0), (SH L0, D)))) r := by
    rcases r with r | r
    · skip
      obtain ⟨l1_4, hre⟩ : ∃ q, q = r := ⟨r, rfl⟩
      subst hre
      show EvF mtab d k_X12_named 28 [some (.inr (.inr 187)), some (.inl l1_4)] [] (SH L0, D) (some (.inl t0), (SH L0, D))
      cases h
      exact ev_ret 2 (fun _ _ => rfl)
    intro o5
    show EvF mtab d k_X12_named 36 [some (.inr (.inr 187)), dv o5] [] (SH L0, D) (some (.inl t0), (SH L0, D))
    cases h
    exact ev_ret 2 (fun _ _ => rfl)
  clear h
  refine ev_go 2 (pc' := 2) (L' := [some (.inr (.inr 187)), some (.inl 0)]) (S' := []) (σ' := (SH L0, D)) (fun _ _ => rfl) ?_
  refine loop_ind (P := fun s => EvF mtab d k_X12_named 2 [some (.inr (.inr 187)), some (.inl s)] [] (SH L0, D) (some (.inl t0), (SH L0, D))) (X := fun r => match r with | .inl r => (EvF mtab d k_X12_named 28 [some (.inr (.inr 187)), some (.inl r)] [] (SH L0, D) (some (.inl t0), (SH L0, D))) | .inr r => (∀ (o5 : Option (Sum Int Nat)), EvF mtab d k_X12_named 36 [some (.inr (.inr 187)), dv o5] [] (SH L0, D) (some (.inl t0), (SH L0, D)))) hr hX ?_
  clear hr hX
  intro s t hb hK0
  obtain ⟨l1_1, hre⟩ : ∃ q, q = s := ⟨s, rfl⟩
  subst hre
  show EvF mtab d k_X12_named 2 [some (.inr (.inr 187)), some (.inl l1_1)] [] (SH L0, D) (some (.inl t0), (SH L0, D))
  unfold b_X12_named_2 at hb
  obtain ⟨x2, hx, hb⟩ := bnd hb
  refine ev_bind hx 5 (pc' := 11) (L' := fun x2 => [some (.inr (.inr 187)), some (.inl l1_1)]) (S' := fun x2 => [.inl x2, .inl l1_1]) (σ' := fun x2 => (SH L0, D)) (fun _ _ => rfl) ?_
  rcases ite_or hb with ⟨hc, hb⟩ | ⟨hc, hb⟩
  · refine ev_ift hc 1 (pc' := 14) (L' := [some (.inr (.inr 187)), some (.inl l1_1)]) (S' := []) (σ' := (SH L0, D)) (fun _ _ => rfl) ?_
    obtain ⟨x3, hx, hb⟩ := bnd hb
    refine ev_bind hx 4 (pc' := 20) (L' := fun x3 => [some (.inr (.inr 187)), some (.inl l1_1)]) (S' := fun x3 => [.inr (.inl x3)]) (σ' := fun x3 => (SH L0, D)) (fun _ _ => rfl) ?_
    rcases ite_or hb with ⟨hc, hb⟩ | ⟨hc, hb⟩
    · refine ev_ift hc 4 (pc' := 28) (L' := [some (.inr (.inr 187)), some (.inl l1_1)]) (S' := []) (σ' := (SH L0, D)) (fun _ _ => rfl) ?_
      cases hb
      exact hK0
    · refine ev_iff hc 4 (pc' := 30) (L' := [some (.inr (.inr 187)), some (.inl l1_1)]) (S' := []) (σ' := (SH L0, D)) (fun _ _ => rfl) ?_
      cases hb
      exact ev_go 2 (pc' := 2) (L' := [some (.inr (.inr 187)), some (.inl (w32 (l1_1 + 1)))]) (S' := []) (σ' := (SH L0, D)) (fun _ _ => rfl) hK0
  · refine ev_iff hc 1 (pc' := 36) (L' := [some (.inr (.inr 187)), some (.inl l1_1)]) (S' := []) (σ' := (SH L0, D)) (fun _ _ => rfl) ?_
    cases hb
    exact hK0 (some (.inl l1_1))
set_option maxRecDepth 100000 in
set_option maxHeartbeats 4000000 in
theorem e_X12_known (L0 d : Nat) (hd : 3 ≤ d) {D : DT} {t0 : (Int × DT)} (h : m_X12_known  D = some t0) : Ret mtab d 234 [.inr (.inr 187)] (SH L0, D) (some (.inl t0.1), (SH L0, t0.2)) := by
  obtain ⟨d, rfl⟩ : ∃ e, d = e + 1 := ⟨d - 1, by omega⟩
  refine Ret.of (code := k_X12_known) (ml := 2) rfl ?_
  show EvF mtab d k_X12_known 0 [some (.inr (.inr 187)), none] [] (SH L0, D) (some (.inl t0.1), (SH L0, t0.2))
  unfold m_X12_known at h
  obtain ⟨x1, hx, h⟩ := bnd h
  refine ev_call (e_X12_isName L0 d (by omega) hx) 3 (pc' := 5) (L' := [some (.inr (.inr 187)), none]) (S' := [.inr (.inr 187)]) (fun _ _ => rfl) ?_
  obtain ⟨D2, hx, h⟩ := bnd h
  refine ev_call (e_X12_must L0 d (by omega) hx) 2 (pc' := 9) (L' := [some (.inr (.inr 187)), none]) (S' := []) (fun _ _ => rfl) ?_
  obtain ⟨x3, hx, h⟩ := bnd h
  refine ev_call (e_X12_named L0 d (by omega) hx) 2 (pc' := 13) (L' := [some (.inr (.inr 187)), none]) (S' := []) (fun _ _ => rfl) ?_
  obtain ⟨t4, hv, h⟩ := bnd h
  have hJ : EvF mtab d k_X12_known 24 [some (.inr (.inr 187)), some (.inl x3)] [.inl t4, .inr (.inr 187)] (SH L0, D2) (some (.inl t0.1), (SH L0, t0.2)) := by
    obtain ⟨D5, hx, h⟩ := bnd h
    refine ev_call (e_X12_must L0 d (by omega) hx) 2 (pc' := 28) (L' := [some (.inr (.inr 187)), some (.inl x3)]) (S' := []) (fun _ _ => rfl) ?_
    cases h
    exact ev_ret 2 (fun _ _ => rfl)
  clear h
  rcases ite_or hv with ⟨hc, hv⟩ | ⟨hc, hv⟩
  · refine ev_ift hc 4 (pc' := 23) (L' := [some (.inr (.inr 187)), some (.inl x3)]) (S' := [.inr (.inr 187)]) (σ' := (SH L0, D2)) (fun _ _ => rfl) ?_
    have he0 := Option.some.inj hv
    subst he0
    exact ev_go 1 (pc' := 24) (L' := [some (.inr (.inr 187)), some (.inl x3)]) (S' := [.inl 0, .inr (.inr 187)]) (σ' := (SH L0, D2)) (fun _ _ => rfl) hJ
  · refine ev_iff hc 4 (pc' := 19) (L' := [some (.inr (.inr 187)), some (.inl x3)]) (S' := [.inr (.inr 187)]) (σ' := (SH L0, D2)) (fun _ _ => rfl) ?_
    have he0 := Option.some.inj hv
    subst he0
    exact ev_go 2 (pc' := 24) (L' := [some (.inr (.inr 187)), some (.inl x3)]) (S' := [.inl 1, .inr (.inr 187)]) (σ' := (SH L0, D2)) (fun _ _ => rfl) hJ
set_option maxRecDepth 100000 in
set_option maxHeartbeats 4000000 in
theorem e_X12_semicolon (L0 d : Nat) (hd : 4 ≤ d) {D : DT} {t0 : DT} (h : m_X12_semicolon  D = some t0) : Ret mtab d 235 [.inr (.inr 187)] (SH L0, D) (none, (SH L0, t0)) := by
  obtain ⟨d, rfl⟩ : ∃ e, d = e + 1 := ⟨d - 1, by omega⟩
  refine Ret.of (code := k_X12_semicolon) (ml := 1) rfl ?_
  show EvF mtab d k_X12_semicolon 0 [some (.inr (.inr 187))] [] (SH L0, D) (none, (SH L0, t0))
  unfold m_X12_semicolon at h
  obtain ⟨t1, hv, h⟩ := bnd h
  have hJ : EvF mtab d k_X12_semicolon 14 [some (.inr (.inr 187))] [.inl t1, .inr (.inr 187)] (SH L0, D) (none, (SH L0, t0)) := by
    obtain ⟨D2, hx, h⟩ := bnd h
    refine ev_call (e_X12_must L0 d (by omega) hx) 2 (pc' := 18) (L' := [some (.inr (.inr 187))]) (S' := []) (fun _ _ => rfl) ?_
    rcases ite_or h with ⟨hc, h⟩ | ⟨hc, h⟩
    · refine ev_ift hc 3 (pc' := 25) (L' := [some (.inr (.inr 187))]) (S' := []) (σ' := (SH L0, D2)) (fun _ _ => rfl) ?_
      obtain ⟨D3, hx, h⟩ := bnd h
      refine ev_call (e_X12_reads L0 d (by omega) hx) 2 (pc' := 29) (L' := [some (.inr (.inr 187))]) (S' := []) (fun _ _ => rfl) ?_
      cases h
      exact ev_ret 1 (fun _ _ => rfl)
    · refine ev_iff hc 3 (pc' := 29) (L' := [some (.inr (.inr 187))]) (S' := []) (σ' := (SH L0, D2)) (fun _ _ => rfl) ?_
      cases h
      exact ev_ret 1 (fun _ _ => rfl)
  clear h
  rcases ite_or hv with ⟨hc, hv⟩ | ⟨hc, hv⟩
  · refine ev_ift hc 5 (pc' := 9) (L' := [some (.inr (.inr 187))]) (S' := [.inr (.inr 187)]) (σ' := (SH L0, D)) (fun _ _ => rfl) ?_
    have he0 := Option.some.inj hv
    subst he0
    exact ev_go 2 (pc' := 14) (L' := [some (.inr (.inr 187))]) (S' := [.inl 1, .inr (.inr 187)]) (σ' := (SH L0, D)) (fun _ _ => rfl) hJ
  · refine ev_iff hc 5 (pc' := 13) (L' := [some (.inr (.inr 187))]) (S' := [.inr (.inr 187)]) (σ' := (SH L0, D)) (fun _ _ => rfl) ?_
    have he0 := Option.some.inj hv
    subst he0
    exact ev_go 1 (pc' := 14) (L' := [some (.inr (.inr 187))]) (S' := [.inl 0, .inr (.inr 187)]) (σ' := (SH L0, D)) (fun _ _ => rfl) hJ
set_option maxRecDepth 100000 in
set_option maxHeartbeats 4000000 in
theorem e_X12_readsFun (L0 d : Nat) (hd : 5 ≤ d) {D : DT} {t0 : DT} (h : m_X12_readsFun  D = some t0) : Ret mtab d 236 [.inr (.inr 187)] (SH L0, D) (none, (SH L0, t0)) := by
  obtain ⟨d, rfl⟩ : ∃ e, d = e + 1 := ⟨d - 1, by omega⟩
  refine Ret.of (code := k_X12_readsFun) (ml := 2) rfl ?_
  show EvF mtab d k_X12_readsFun 0 [some (.inr (.inr 187)), none] [] (SH L0, D) (none, (SH L0, t0))
  unfold m_X12_readsFun at h
  obtain ⟨x1, hx, h⟩ := bnd h
  refine ev_bind hx 5 (pc' := 9) (L' := fun x1 => [some (.inr (.inr 187)), none]) (S' := fun x1 => [.inl x1, .inr (.inr 187)]) (σ' := fun x1 => (SH L0, D)) (fun _ _ => rfl) ?_
  obtain ⟨t2, hv, h⟩ := bnd h
  have hJ : EvF mtab d k_X12_readsFun 19 [some (.inr (.inr 187)), none] [.inl t2, .inr (.inr 187)] (SH L0, D) (none, (SH L0, t0)) := by
    obtain ⟨D3, hx, h⟩ := bnd h
    refine ev_call (e_X12_must L0 d (by omega) hx) 2 (pc' := 24) (L' := [some (.inr (.inr 187)), none]) (S' := []) (fun _ _ => rfl) ?_
    rcases ite_or h with ⟨hc, h⟩ | ⟨hc, h⟩
    · refine ev_ift hc 3 (pc' := 31) (L' := [some (.inr (.inr 187)), none]) (S' := []) (σ' := (SH L0, D3)) (fun _ _ => rfl) ?_
      cases h
      exact ev_ret 1 (fun _ _ => rfl)
    · refine ev_iff hc 3 (pc' := 32) (L' := [some (.inr (.inr 187)), none]) (S' := []) (σ' := (SH L0, D3)) (fun _ _ => rfl) ?_
      obtain ⟨D4, hx, h⟩ := bnd h
      refine ev_call (e_X12_reads L0 d (by omega) hx) 2 (pc' := 36) (L' := [some (.inr (.inr 187)), none]) (S' := []) (fun _ _ => rfl) ?_
      obtain ⟨x5, hx, h⟩ := bnd h
      refine ev_call (e_X12_isName L0 d (by omega) hx) 3 (pc' := 41) (L' := [some (.inr (.inr 187)), none]) (S' := [.inr (.inr 187)]) (fun _ _ => rfl) ?_
      obtain ⟨D6, hx, h⟩ := bnd h
      refine ev_call (e_X12_must L0 d (by omega) hx) 2 (pc' := 45) (L' := [some (.inr (.inr 187)), none]) (S' := []) (fun _ _ => rfl) ?_
      obtain ⟨x7, hx, h⟩ := bnd h
      refine ev_call (e_X12_named L0 d (by omega) hx) 3 (pc' := 50) (L' := [some (.inr (.inr 187)), none]) (S' := [.inr (.inr 187)]) (fun _ _ => rfl) ?_
      obtain ⟨t8, hv, h⟩ := bnd h
      have hJ : EvF mtab d k_X12_readsFun 58 [some (.inr (.inr 187)), none] [.inl t8, .inr (.inr 187)] (SH L0, D6) (none, (SH L0, t0)) := by
        obtain ⟨D9, hx, h⟩ := bnd h
        refine ev_call (e_X12_must L0 d (by omega) hx) 2 (pc' := 62) (L' := [some (.inr (.inr 187)), none]) (S' := []) (fun _ _ => rfl) ?_
        obtain ⟨x10, hx, h⟩ := bnd h
        refine ev_bind hx 4 (pc' := 70) (L' := fun x10 => [some (.inr (.inr 187)), none]) (S' := fun x10 => [.inl x10]) (σ' := fun x10 => (SH L0, D9)) (fun _ _ => rfl) ?_
        obtain ⟨D11, hx, h⟩ := bnd h
        refine ev_bind hx 7 (pc' := 81) (L' := fun D11 => [some (.inr (.inr 187)), some (.inl x10)]) (S' := fun D11 => []) (σ' := fun D11 => (SH L0, D11)) (fun _ _ => rfl) ?_
        obtain ⟨D13, hv, h⟩ := bnd h
        have hJ : EvF mtab d k_X12_readsFun 92 [some (.inr (.inr 187)), some (.inl x10)] [] (SH L0, D13) (none, (SH L0, t0)) := by
          obtain ⟨⟨x14, D15⟩, hx, h⟩ := bnd h
          refine ev_call (e_X12_takes L0 d (by omega) hx) 7 (pc' := 105) (L' := [some (.inr (.inr 187)), some (.inl x10)]) (S' := [.inl x10, .inr (.inr 221)]) (fun _ _ => rfl) ?_
          obtain ⟨D16, hx, h⟩ := bnd h
          refine ev_bind hx 1 (pc' := 106) (L' := fun D16 => [some (.inr (.inr 187)), some (.inl x10)]) (S' := fun D16 => []) (σ' := fun D16 => (SH L0, D16)) (fun _ _ => rfl) ?_
          obtain ⟨D17, hx, h⟩ := bnd h
          refine ev_call (e_X12_semicolon L0 d (by omega) hx) 2 (pc' := 110) (L' := [some (.inr (.inr 187)), some (.inl x10)]) (S' := []) (fun _ _ => rfl) ?_
          obtain ⟨D18, hx, h⟩ := bnd h
          refine ev_bind hx 5 (pc' := 117) (L' := fun D18 => [some (.inr (.inr 187)), some (.inl x10)]) (S' := fun D18 => []) (σ' := fun D18 => (SH L0, D18)) (fun _ _ => rfl) ?_
          obtain ⟨x19, hx, h⟩ := bnd h
          refine ev_bind hx 5 (pc' := 126) (L' := fun x19 => [some (.inr (.inr 187)), some (.inl x10)]) (S' := fun x19 => [.inl x19, .inl 4256, .inr (.inr 188)]) (σ' := fun x19 => (SH L0, D18)) (fun _ _ => rfl) ?_
          obtain ⟨D20, hx, h⟩ := bnd h
          refine ev_bind hx 3 (pc' := 129) (L' := fun D20 => [some (.inr (.inr 187)), some (.inl x10)]) (S' := fun D20 => []) (σ' := fun D20 => (SH L0, D20)) (fun _ _ => rfl) ?_
          cases h
          exact ev_ret 1 (fun _ _ => rfl)
        clear h
        rcases ite_or hv with ⟨hc, hv⟩ | ⟨hc, hv⟩
        · refine ev_ift hc 3 (pc' := 88) (L' := [some (.inr (.inr 187)), some (.inl x10)]) (S' := []) (σ' := (SH L0, D11)) (fun _ _ => rfl) ?_
          obtain ⟨D12, hx, hv⟩ := bnd hv
          refine ev_call (e_X12_reads L0 d (by omega) hx) 2 (pc' := 92) (L' := [some (.inr (.inr 187)), some (.inl x10)]) (S' := []) (fun _ _ => rfl) ?_
          have he0 := Option.some.inj hv
          subst he0
          exact hJ
        · refine ev_iff hc 3 (pc' := 92) (L' := [some (.inr (.inr 187)), some (.inl x10)]) (S' := []) (σ' := (SH L0, D11)) (fun _ _ => rfl) ?_
          have he0 := Option.some.inj hv
          subst he0
          exact hJ
      clear h
      rcases ite_or hv with ⟨hc, hv⟩ | ⟨hc, hv⟩
      · refine ev_ift hc 1 (pc' := 53) (L' := [some (.inr (.inr 187)), none]) (S' := [.inr (.inr 187)]) (σ' := (SH L0, D6)) (fun _ _ => rfl) ?_
        have he0 := Option.some.inj hv
        subst he0
        exact ev_go 2 (pc' := 58) (L' := [some (.inr (.inr 187)), none]) (S' := [.inl 1, .inr (.inr 187)]) (σ' := (SH L0, D6)) (fun _ _ => rfl) hJ
      · refine ev_iff hc 1 (pc' := 57) (L' := [some (.inr (.inr 187)), none]) (S' := [.inr (.inr 187)]) (σ' := (SH L0, D6)) (fun _ _ => rfl) ?_
        have he0 := Option.some.inj hv
        subst he0
        exact ev_go 1 (pc' := 58) (L' := [some (.inr (.inr 187)), none]) (S' := [.inl 0, .inr (.inr 187)]) (σ' := (SH L0, D6)) (fun _ _ => rfl) hJ
  clear h
  rcases ite_or hv with ⟨hc, hv⟩ | ⟨hc, hv⟩
  · refine ev_ift hc 2 (pc' := 14) (L' := [some (.inr (.inr 187)), none]) (S' := [.inr (.inr 187)]) (σ' := (SH L0, D)) (fun _ _ => rfl) ?_
    have he0 := Option.some.inj hv
    subst he0
    exact ev_go 2 (pc' := 19) (L' := [some (.inr (.inr 187)), none]) (S' := [.inl 1, .inr (.inr 187)]) (σ' := (SH L0, D)) (fun _ _ => rfl) hJ
  · refine ev_iff hc 2 (pc' := 18) (L' := [some (.inr (.inr 187)), none]) (S' := [.inr (.inr 187)]) (σ' := (SH L0, D)) (fun _ _ => rfl) ?_
    have he0 := Option.some.inj hv
    subst he0
    exact ev_go 1 (pc' := 19) (L' := [some (.inr (.inr 187)), none]) (S' := [.inl 0, .inr (.inr 187)]) (σ' := (SH L0, D)) (fun _ _ => rfl) hJ
set_option maxRecDepth 100000 in
set_option maxHeartbeats 4000000 in
theorem e_X12_readsEnd (L0 d : Nat) (hd : 5 ≤ d) {p1 : Int} {D : DT} {t0 : DT} (h : m_X12_readsEnd p1 D = some t0) : Ret mtab d 237 [.inr (.inr 187), .inl p1] (SH L0, D) (none, (SH L0, t0)) := by
  obtain ⟨d, rfl⟩ : ∃ e, d = e + 1 := ⟨d - 1, by omega⟩
  refine Ret.of (code := k_X12_readsEnd) (ml := 3) rfl ?_
  show EvF mtab d k_X12_readsEnd 0 [some (.inr (.inr 187)), some (.inl p1), none] [] (SH L0, D) (none, (SH L0, t0))
  unfold m_X12_readsEnd at h
  obtain ⟨x1, hx, h⟩ := bnd h
  refine ev_call (e_X12_key L0 d (by omega) hx) 2 (pc' := 4) (L' := [some (.inr (.inr 187)), some (.inl p1), none]) (S' := []) (fun _ _ => rfl) ?_
  obtain ⟨t2, hv, h⟩ := bnd h
  have hJ : EvF mtab d k_X12_readsEnd 26 [some (.inr (.inr 187)), some (.inl p1), some (.inl x1)] [.inl t2, .inr (.inr 187)] (SH L0, D) (none, (SH L0, t0)) := by
    obtain ⟨D3, hx, h⟩ := bnd h
    refine ev_call (e_X12_must L0 d (by omega) hx) 2 (pc' := 30) (L' := [some (.inr (.inr 187)), some (.inl p1), some (.inl x1)]) (S' := []) (fun _ _ => rfl) ?_
    rcases ite_or h with ⟨hc, h⟩ | ⟨hc, h⟩
    · refine ev_ift hc 3 (pc' := 37) (L' := [some (.inr (.inr 187)), some (.inl p1), some (.inl x1)]) (S' := []) (σ' := (SH L0, D3)) (fun _ _ => rfl) ?_
      cases h
      exact ev_ret 1 (fun _ _ => rfl)
    · refine ev_iff hc 3 (pc' := 38) (L' := [some (.inr (.inr 187)), some (.inl p1), some (.inl x1)]) (S' := []) (σ' := (SH L0, D3)) (fun _ _ => rfl) ?_
      obtain ⟨D4, hx, h⟩ := bnd h
      refine ev_call (e_X12_reads L0 d (by omega) hx) 2 (pc' := 42) (L' := [some (.inr (.inr 187)), some (.inl p1), some (.inl x1)]) (S' := []) (fun _ _ => rfl) ?_
      obtain ⟨D5, hx, h⟩ := bnd h
      refine ev_bind hx 9 (pc' := 55) (L' := fun D5 => [some (.inr (.inr 187)), some (.inl p1), some (.inl x1)]) (S' := fun D5 => []) (σ' := fun D5 => (SH L0, D5)) (fun _ _ => rfl) ?_
      rcases ite_or h with ⟨hc, h⟩ | ⟨hc, h⟩
      · refine ev_ift hc 3 (pc' := 60) (L' := [some (.inr (.inr 187)), some (.inl p1), some (.inl x1)]) (S' := []) (σ' := (SH L0, D5)) (fun _ _ => rfl) ?_
        obtain ⟨⟨x6, D7⟩, hx, h⟩ := bnd h
        refine ev_call (e_X12_takes L0 d (by omega) hx) 9 (pc' := 75) (L' := [some (.inr (.inr 187)), some (.inl p1), some (.inl x1)]) (S' := [.inl (w32 (2 * p1)), .inr (.inr 222)]) (fun _ _ => rfl) ?_
        obtain ⟨D8, hx, h⟩ := bnd h
        refine ev_bind hx 1 (pc' := 76) (L' := fun D8 => [some (.inr (.inr 187)), some (.inl p1), some (.inl x1)]) (S' := fun D8 => []) (σ' := fun D8 => (SH L0, D8)) (fun _ _ => rfl) ?_
        cases h
        exact ev_ret 1 (fun _ _ => rfl)
      · refine ev_iff hc 3 (pc' := 77) (L' := [some (.inr (.inr 187)), some (.inl p1), some (.inl x1)]) (S' := []) (σ' := (SH L0, D5)) (fun _ _ => rfl) ?_
        obtain ⟨⟨x9, D10⟩, hx, h⟩ := bnd h
        refine ev_call (e_X12_takes L0 d (by omega) hx) 9 (pc' := 91) (L' := [some (.inr (.inr 187)), some (.inl p1), some (.inl x1)]) (S' := [.inl (w32 (2 * p1)), .inr (.inr 219)]) (fun _ _ => rfl) ?_
        obtain ⟨D11, hx, h⟩ := bnd h
        refine ev_bind hx 1 (pc' := 92) (L' := fun D11 => [some (.inr (.inr 187)), some (.inl p1), some (.inl x1)]) (S' := fun D11 => []) (σ' := fun D11 => (SH L0, D11)) (fun _ _ => rfl) ?_
        obtain ⟨⟨x12, D13⟩, hx, h⟩ := bnd h
        refine ev_call (e_X12_takes L0 d (by omega) hx) 9 (pc' := 107) (L' := [some (.inr (.inr 187)), some (.inl p1), some (.inl x1)]) (S' := [.inl (w32 (2 * p1)), .inr (.inr 222)]) (fun _ _ => rfl) ?_
        obtain ⟨D14, hx, h⟩ := bnd h
        refine ev_bind hx 1 (pc' := 108) (L' := fun D14 => [some (.inr (.inr 187)), some (.inl p1), some (.inl x1)]) (S' := fun D14 => []) (σ' := fun D14 => (SH L0, D14)) (fun _ _ => rfl) ?_
        rcases ite_or h with ⟨hc, h⟩ | ⟨hc, h⟩
        · refine ev_ift hc 3 (pc' := 113) (L' := [some (.inr (.inr 187)), some (.inl p1), some (.inl x1)]) (S' := []) (σ' := (SH L0, D14)) (fun _ _ => rfl) ?_
          cases h
          exact ev_ret 1 (fun _ _ => rfl)
        · refine ev_iff hc 3 (pc' := 114) (L' := [some (.inr (.inr 187)), some (.inl p1), some (.inl x1)]) (S' := []) (σ' := (SH L0, D14)) (fun _ _ => rfl) ?_
          obtain ⟨D15, hx, h⟩ := bnd h
          refine ev_call (e_X12_takesKey L0 d (by omega) hx) 3 (pc' := 120) (L' := [some (.inr (.inr 187)), some (.inl p1), some (.inl x1)]) (S' := []) (fun _ _ => rfl) ?_
          obtain ⟨⟨x16, D17⟩, hx, h⟩ := bnd h
          refine ev_call (e_X12_takes L0 d (by omega) hx) 11 (pc' := 136) (L' := [some (.inr (.inr 187)), some (.inl p1), some (.inl x1)]) (S' := [.inl (w32 ((w32 (2 * p1)) + 1)), .inr (.inr 219)]) (fun _ _ => rfl) ?_
          obtain ⟨D18, hx, h⟩ := bnd h
          refine ev_bind hx 1 (pc' := 137) (L' := fun D18 => [some (.inr (.inr 187)), some (.inl p1), some (.inl x1)]) (S' := fun D18 => []) (σ' := fun D18 => (SH L0, D18)) (fun _ _ => rfl) ?_
          obtain ⟨⟨x19, D20⟩, hx, h⟩ := bnd h
          refine ev_call (e_X12_takes L0 d (by omega) hx) 11 (pc' := 154) (L' := [some (.inr (.inr 187)), some (.inl p1), some (.inl x1)]) (S' := [.inl (w32 ((w32 (2 * p1)) + 1)), .inr (.inr 222)]) (fun _ _ => rfl) ?_
          obtain ⟨D21, hx, h⟩ := bnd h
          refine ev_bind hx 1 (pc' := 155) (L' := fun D21 => [some (.inr (.inr 187)), some (.inl p1), some (.inl x1)]) (S' := fun D21 => []) (σ' := fun D21 => (SH L0, D21)) (fun _ _ => rfl) ?_
          cases h
          exact ev_ret 1 (fun _ _ => rfl)
  clear h
  rcases ite_or hv with ⟨hc, hv⟩ | ⟨hc, hv⟩
  · refine ev_ift hc 5 (pc' := 21) (L' := [some (.inr (.inr 187)), some (.inl p1), some (.inl x1)]) (S' := [.inr (.inr 187)]) (σ' := (SH L0, D)) (fun _ _ => rfl) ?_
    have he0 := Option.some.inj hv
    subst he0
    exact ev_go 2 (pc' := 26) (L' := [some (.inr (.inr 187)), some (.inl p1), some (.inl x1)]) (S' := [.inl 1, .inr (.inr 187)]) (σ' := (SH L0, D)) (fun _ _ => rfl) hJ
  · refine ev_iff hc 5 (pc' := 11) (L' := [some (.inr (.inr 187)), some (.inl p1), some (.inl x1)]) (S' := [.inr (.inr 187)]) (σ' := (SH L0, D)) (fun _ _ => rfl) ?_
    rcases ite_or hv with ⟨hc, hv⟩ | ⟨hc, hv⟩
    · refine ev_ift hc 3 (pc' := 21) (L' := [some (.inr (.inr 187)), some (.inl p1), some (.inl x1)]) (S' := [.inr (.inr 187)]) (σ' := (SH L0, D)) (fun _ _ => rfl) ?_
      have he0 := Option.some.inj hv
      subst he0
      exact ev_go 2 (pc' := 26) (L' := [some (.inr (.inr 187)), some (.inl p1), some (.inl x1)]) (S' := [.inl 1, .inr (.inr 187)]) (σ' := (SH L0, D)) (fun _ _ => rfl) hJ
    · refine ev_iff hc 3 (pc' := 16) (L' := [some (.inr (.inr 187)), some (.inl p1), some (.inl x1)]) (S' := [.inr (.inr 187)]) (σ' := (SH L0, D)) (fun _ _ => rfl) ?_
      rcases ite_or hv with ⟨hc, hv⟩ | ⟨hc, hv⟩
      · refine ev_ift hc 3 (pc' := 21) (L' := [some (.inr (.inr 187)), some (.inl p1), some (.inl x1)]) (S' := [.inr (.inr 187)]) (σ' := (SH L0, D)) (fun _ _ => rfl) ?_
        have he0 := Option.some.inj hv
        subst he0
        exact ev_go 2 (pc' := 26) (L' := [some (.inr (.inr 187)), some (.inl p1), some (.inl x1)]) (S' := [.inl 1, .inr (.inr 187)]) (σ' := (SH L0, D)) (fun _ _ => rfl) hJ
      · refine ev_iff hc 3 (pc' := 25) (L' := [some (.inr (.inr 187)), some (.inl p1), some (.inl x1)]) (S' := [.inr (.inr 187)]) (σ' := (SH L0, D)) (fun _ _ => rfl) ?_
        have he0 := Option.some.inj hv
        subst he0
        exact ev_go 1 (pc' := 26) (L' := [some (.inr (.inr 187)), some (.inl p1), some (.inl x1)]) (S' := [.inl 0, .inr (.inr 187)]) (σ' := (SH L0, D)) (fun _ _ => rfl) hJ
set_option maxRecDepth 100000 in
set_option maxHeartbeats 4000000 in
theorem e_X12_readsBlock (L0 d : Nat) (hd : 6 ≤ d) {D : DT} {t0 : DT} (h : m_X12_readsBlock  D = some t0) : Ret mtab d 238 [.inr (.inr 187)] (SH L0, D) (none, (SH L0, t0)) := by
  obtain ⟨d, rfl⟩ : ∃ e, d = e + 1 := ⟨d - 1, by omega⟩
  refine Ret.of (code := k_X12_readsBlock) (ml := 4) rfl ?_
  show EvF mtab d k_X12_readsBlock 0 [some (.inr (.inr 187)), none, none, none] [] (SH L0, D) (none, (SH L0, t0))
  unfold m_X12_readsBlock at h
  obtain ⟨x1, hx, h⟩ := bnd h
  refine ev_bind hx 5 (pc' := 9) (L' := fun x1 => [some (.inr (.inr 187)), none, none, none]) (S' := fun x1 => [.inl x1, .inr (.inr 187)]) (σ' := fun x1 => (SH L0, D)) (fun _ _ => rfl) ?_
  obtain ⟨t2, hv, h⟩ := bnd h
  have hJ : EvF mtab d k_X12_readsBlock 19 [some (.inr (.inr 187)), none, none, none] [.inl t2, .inr (.inr 187)] (SH L0, D) (none, (SH L0, t0)) := by
    obtain ⟨D3, hx, h⟩ := bnd h
    refine ev_call (e_X12_must L0 d (by omega) hx) 2 (pc' := 24) (L' := [some (.inr (.inr 187)), none, none, none]) (S' := []) (fun _ _ => rfl) ?_
    rcases ite_or h with ⟨hc, h⟩ | ⟨hc, h⟩
    · refine ev_ift hc 3 (pc' := 31) (L' := [some (.inr (.inr 187)), none, none, none]) (S' := []) (σ' := (SH L0, D3)) (fun _ _ => rfl) ?_
      cases h
      exact ev_ret 1 (fun _ _ => rfl)
    · refine ev_iff hc 3 (pc' := 32) (L' := [some (.inr (.inr 187)), none, none, none]) (S' := []) (σ' := (SH L0, D3)) (fun _ _ => rfl) ?_
      obtain ⟨D4, hx, h⟩ := bnd h
      refine ev_call (e_X12_reads L0 d (by omega) hx) 2 (pc' := 36) (L' := [some (.inr (.inr 187)), none, none, none]) (S' := []) (fun _ _ => rfl) ?_
      obtain ⟨x5, hx, h⟩ := bnd h
      refine ev_bind hx 4 (pc' := 44) (L' := fun x5 => [some (.inr (.inr 187)), none, none, none]) (S' := fun x5 => [.inl x5]) (σ' := fun x5 => (SH L0, D4)) (fun _ _ => rfl) ?_
      obtain ⟨⟨x6, D7⟩, hx, h⟩ := bnd h
      refine ev_call (e_X12_known L0 d (by omega) hx) 3 (pc' := 49) (L' := [some (.inr (.inr 187)), some (.inl x5), none, none]) (S' := []) (fun _ _ => rfl) ?_
      rcases ite_or h with ⟨hc, h⟩ | ⟨hc, h⟩
      · refine ev_ift hc 4 (pc' := 57) (L' := [some (.inr (.inr 187)), some (.inl x5), some (.inl x6), none]) (S' := []) (σ' := (SH L0, D7)) (fun _ _ => rfl) ?_
        cases h
        exact ev_ret 1 (fun _ _ => rfl)
      · refine ev_iff hc 4 (pc' := 58) (L' := [some (.inr (.inr 187)), some (.inl x5), some (.inl x6), none]) (S' := []) (σ' := (SH L0, D7)) (fun _ _ => rfl) ?_
        obtain ⟨D8, hx, h⟩ := bnd h
        refine ev_call (e_X12_reads L0 d (by omega) hx) 2 (pc' := 62) (L' := [some (.inr (.inr 187)), some (.inl x5), some (.inl x6), none]) (S' := []) (fun _ _ => rfl) ?_
        obtain ⟨D9, hx, h⟩ := bnd h
        refine ev_bind hx 7 (pc' := 73) (L' := fun D9 => [some (.inr (.inr 187)), some (.inl x5), some (.inl x6), none]) (S' := fun D9 => []) (σ' := fun D9 => (SH L0, D9)) (fun _ _ => rfl) ?_
        obtain ⟨⟨x10, D11⟩, hx, h⟩ := bnd h
        refine ev_call (e_X12_takes L0 d (by omega) hx) 9 (pc' := 89) (L' := [some (.inr (.inr 187)), some (.inl x5), some (.inl x6), none]) (S' := [.inl (w32 (4306 + x5)), .inr (.inr 188)]) (fun _ _ => rfl) ?_
        obtain ⟨D12, hx, h⟩ := bnd h
        refine ev_bind hx 1 (pc' := 90) (L' := fun D12 => [some (.inr (.inr 187)), some (.inl x5), some (.inl x6), none]) (S' := fun D12 => []) (σ' := fun D12 => (SH L0, D12)) (fun _ _ => rfl) ?_
        obtain ⟨r, hr, h⟩ := bnd h
        have hX : (fun (r : (DT ⊕ (DT ⊕ DT))) => match r with | .inl r => (∀ (o27 : Option (Sum Int Nat)), EvF mtab d k_X12_readsBlock 137 [some (.inr (.inr 187)), some (.inl x5), some (.inl x6), dv o27] [] (SH L0, r) (none, (SH L0, t0))) | .inr r => (match r with | .inl r => (∀ (o29 : Option (Sum Int Nat)), EvF mtab d k_X12_readsBlock 154 [some (.inr (.inr 187)), some (.inl x5), some (.inl x6), dv o29] [] (SH L0, r) (none, (SH L0, t0))) | .inr r => (∀ (o31 : Option (Sum Int Nat)), EvF mtab d k_X12_readsBlock 200 [some (.inr (.inr 187)), some (.inl x5), some (.inl x6), dv o31] [] (SH L0, r) (none, (SH L0, t0))))) r := by
          rcases r with r | r
          · skip
            obtain ⟨D28, hre⟩ : ∃ q, q = r := ⟨r, rfl⟩
            subst hre
            intro o27
            show EvF mtab d k_X12_readsBlock 137 [some (.inr (.inr 187)), some (.inl x5), some (.inl x6), dv o27] [] (SH L0, D28) (none, (SH L0, t0))
            cases h
            exact ev_ret 1 (fun _ _ => rfl)
          rcases r with r | r
          · skip
            obtain ⟨D30, hre⟩ : ∃ q, q = r := ⟨r, rfl⟩
            subst hre
            intro o29
            show EvF mtab d k_X12_readsBlock 154 [some (.inr (.inr 187)), some (.inl x5), some (.inl x6), dv o29] [] (SH L0, D30) (none, (SH L0, t0))
            cases h
            exact ev_ret 1 (fun _ _ => rfl)
          obtain ⟨D32, hre⟩ : ∃ q, q = r := ⟨r, rfl⟩
          subst hre
          intro o31
          show EvF mtab d k_X12_readsBlock 200 [some (.inr (.inr 187)), some (.inl x5), some (.inl x6), dv o31] [] (SH L0, D32) (none, (SH L0, t0))
          obtain ⟨D33, hx, h⟩ := bnd h
          refine ev_call (e_X12_readsEnd L0 d (by omega) hx) 3 (pc' := 205) (L' := [some (.inr (.inr 187)), some (.inl x5), some (.inl x6), dv o31]) (S' := []) (fun _ _ => rfl) ?_
          obtain ⟨x34, hx, h⟩ := bnd h
          refine ev_bind hx 5 (pc' := 214) (L' := fun x34 => [some (.inr (.inr 187)), some (.inl x5), some (.inl x6), dv o31]) (S' := fun x34 => [.inl x34, .inl 4257, .inr (.inr 188)]) (σ' := fun x34 => (SH L0, D33)) (fun _ _ => rfl) ?_
          obtain ⟨D35, hx, h⟩ := bnd h
          refine ev_bind hx 3 (pc' := 217) (L' := fun D35 => [some (.inr (.inr 187)), some (.inl x5), some (.inl x6), dv o31]) (S' := fun D35 => []) (σ' := fun D35 => (SH L0, D35)) (fun _ _ => rfl) ?_
          obtain ⟨x36, hx, h⟩ := bnd h
          refine ev_bind hx 5 (pc' := 224) (L' := fun x36 => [some (.inr (.inr 187)), some (.inl x5), some (.inl x6), dv o31]) (S' := fun x36 => [.inl x36, .inl x6, .inr (.inr 220)]) (σ' := fun x36 => (SH L0, D35)) (fun _ _ => rfl) ?_
          obtain ⟨D37, hx, h⟩ := bnd h
          refine ev_bind hx 3 (pc' := 227) (L' := fun D37 => [some (.inr (.inr 187)), some (.inl x5), some (.inl x6), dv o31]) (S' := fun D37 => []) (σ' := fun D37 => (SH L0, D37)) (fun _ _ => rfl) ?_
          cases h
          exact ev_ret 1 (fun _ _ => rfl)
        clear h
        refine loop_ind (P := fun s => ∀ (o13 : Option (Sum Int Nat)), EvF mtab d k_X12_readsBlock 90 [some (.inr (.inr 187)), some (.inl x5), some (.inl x6), dv o13] [] (SH L0, s) (none, (SH L0, t0))) (X := fun r => match r with | .inl r => (∀ (o27 : Option (Sum Int Nat)), EvF mtab d k_X12_readsBlock 137 [some (.inr (.inr 187)), some (.inl x5), some (.inl x6), dv o27] [] (SH L0, r) (none, (SH L0, t0))) | .inr r => (match r with | .inl r => (∀ (o29 : Option (Sum Int Nat)), EvF mtab d k_X12_readsBlock 154 [some (.inr (.inr 187)), some (.inl x5), some (.inl x6), dv o29] [] (SH L0, r) (none, (SH L0, t0))) | .inr r => (∀ (o31 : Option (Sum Int Nat)), EvF mtab d k_X12_readsBlock 200 [some (.inr (.inr 187)), some (.inl x5), some (.inl x6), dv o31] [] (SH L0, r) (none, (SH L0, t0))))) hr hX ?_ none
        clear hr hX
        intro s t hb hK0
        obtain ⟨D14, hre⟩ : ∃ q, q = s := ⟨s, rfl⟩
        subst hre
        intro o13
        show EvF mtab d k_X12_readsBlock 90 [some (.inr (.inr 187)), some (.inl x5), some (.inl x6), dv o13] [] (SH L0, D14) (none, (SH L0, t0))
        unfold b_X12_readsBlock_90 at hb
        rcases ite_or hb with ⟨hc, hb⟩ | ⟨hc, hb⟩
        · refine ev_ift hc 3 (pc' := 97) (L' := [some (.inr (.inr 187)), some (.inl x5), some (.inl x6), dv o13]) (S' := []) (σ' := (SH L0, D14)) (fun _ _ => rfl) ?_
          obtain ⟨x15, hx, hb⟩ := bnd hb
          refine ev_call (e_X12_key L0 d (by omega) hx) 2 (pc' := 101) (L' := [some (.inr (.inr 187)), some (.inl x5), some (.inl x6), dv o13]) (S' := []) (fun _ _ => rfl) ?_
          rcases ite_or hb with ⟨hc, hb⟩ | ⟨hc, hb⟩
          · refine ev_ift hc 2 (pc' := 105) (L' := [some (.inr (.inr 187)), some (.inl x5), some (.inl x6), dv o13]) (S' := []) (σ' := (SH L0, D14)) (fun _ _ => rfl) ?_
            obtain ⟨x16, hx, hb⟩ := bnd hb
            refine ev_bind hx 7 (pc' := 116) (L' := fun x16 => [some (.inr (.inr 187)), some (.inl x5), some (.inl x6), dv o13]) (S' := fun x16 => [.inl x16, .inr (.inr 187)]) (σ' := fun x16 => (SH L0, D14)) (fun _ _ => rfl) ?_
            obtain ⟨t17, hv, hb⟩ := bnd hb
            have hJ : EvF mtab d k_X12_readsBlock 125 [some (.inr (.inr 187)), some (.inl x5), some (.inl x6), dv o13] [.inl t17, .inr (.inr 187)] (SH L0, D14) (none, (SH L0, t0)) := by
              obtain ⟨D18, hx, hb⟩ := bnd hb
              refine ev_call (e_X12_must L0 d (by omega) hx) 2 (pc' := 130) (L' := [some (.inr (.inr 187)), some (.inl x5), some (.inl x6), dv o13]) (S' := []) (fun _ _ => rfl) ?_
              rcases ite_or hb with ⟨hc, hb⟩ | ⟨hc, hb⟩
              · refine ev_ift hc 3 (pc' := 137) (L' := [some (.inr (.inr 187)), some (.inl x5), some (.inl x6), dv o13]) (S' := []) (σ' := (SH L0, D18)) (fun _ _ => rfl) ?_
                cases hb
                exact hK0 o13
              · refine ev_iff hc 3 (pc' := 138) (L' := [some (.inr (.inr 187)), some (.inl x5), some (.inl x6), dv o13]) (S' := []) (σ' := (SH L0, D18)) (fun _ _ => rfl) ?_
                obtain ⟨D19, hx, hb⟩ := bnd hb
                refine ev_call (e_X12_reads L0 d (by omega) hx) 2 (pc' := 142) (L' := [some (.inr (.inr 187)), some (.inl x5), some (.inl x6), dv o13]) (S' := []) (fun _ _ => rfl) ?_
                obtain ⟨⟨x20, D21⟩, hx, hb⟩ := bnd hb
                refine ev_call (e_X12_known L0 d (by omega) hx) 2 (pc' := 146) (L' := [some (.inr (.inr 187)), some (.inl x5), some (.inl x6), dv o13]) (S' := []) (fun _ _ => rfl) ?_
                rcases ite_or hb with ⟨hc, hb⟩ | ⟨hc, hb⟩
                · refine ev_ift hc 4 (pc' := 154) (L' := [some (.inr (.inr 187)), some (.inl x5), some (.inl x6), some (.inl x20)]) (S' := []) (σ' := (SH L0, D21)) (fun _ _ => rfl) ?_
                  cases hb
                  exact hK0 (some (.inl x20))
                · refine ev_iff hc 4 (pc' := 155) (L' := [some (.inr (.inr 187)), some (.inl x5), some (.inl x6), some (.inl x20)]) (S' := []) (σ' := (SH L0, D21)) (fun _ _ => rfl) ?_
                  obtain ⟨D22, hx, hb⟩ := bnd hb
                  refine ev_call (e_X12_reads L0 d (by omega) hx) 2 (pc' := 159) (L' := [some (.inr (.inr 187)), some (.inl x5), some (.inl x6), some (.inl x20)]) (S' := []) (fun _ _ => rfl) ?_
                  obtain ⟨x23, hx, hb⟩ := bnd hb
                  refine ev_bind hx 13 (pc' := 180) (L' := fun x23 => [some (.inr (.inr 187)), some (.inl x5), some (.inl x6), some (.inl x20)]) (S' := fun x23 => [.inl x23, .inl (w32 (4346 + (w32 (2 * x5)))), .inr (.inr 188)]) (σ' := fun x23 => (SH L0, D22)) (fun _ _ => rfl) ?_
                  obtain ⟨D24, hx, hb⟩ := bnd hb
                  refine ev_bind hx 3 (pc' := 183) (L' := fun D24 => [some (.inr (.inr 187)), some (.inl x5), some (.inl x6), some (.inl x20)]) (S' := fun D24 => []) (σ' := fun D24 => (SH L0, D24)) (fun _ _ => rfl) ?_
                  obtain ⟨x25, hx, hb⟩ := bnd hb
                  refine ev_bind hx 7 (pc' := 194) (L' := fun x25 => [some (.inr (.inr 187)), some (.inl x5), some (.inl x6), some (.inl x20)]) (S' := fun x25 => [.inl x25, .inl (w32 (4426 + x5)), .inr (.inr 188)]) (σ' := fun x25 => (SH L0, D24)) (fun _ _ => rfl) ?_
                  obtain ⟨D26, hx, hb⟩ := bnd hb
                  refine ev_bind hx 3 (pc' := 197) (L' := fun D26 => [some (.inr (.inr 187)), some (.inl x5), some (.inl x6), some (.inl x20)]) (S' := fun D26 => []) (σ' := fun D26 => (SH L0, D26)) (fun _ _ => rfl) ?_
                  cases hb
                  exact ev_go 1 (pc' := 90) (L' := [some (.inr (.inr 187)), some (.inl x5), some (.inl x6), some (.inl x20)]) (S' := []) (σ' := (SH L0, D26)) (fun _ _ => rfl) (hK0 (some (.inl x20)))
            clear hb
            rcases ite_or hv with ⟨hc, hv⟩ | ⟨hc, hv⟩
            · refine ev_ift hc 2 (pc' := 120) (L' := [some (.inr (.inr 187)), some (.inl x5), some (.inl x6), dv o13]) (S' := [.inr (.inr 187)]) (σ' := (SH L0, D14)) (fun _ _ => rfl) ?_
              have he0 := Option.some.inj hv
              subst he0
              exact ev_go 2 (pc' := 125) (L' := [some (.inr (.inr 187)), some (.inl x5), some (.inl x6), dv o13]) (S' := [.inl 1, .inr (.inr 187)]) (σ' := (SH L0, D14)) (fun _ _ => rfl) hJ
            · refine ev_iff hc 2 (pc' := 124) (L' := [some (.inr (.inr 187)), some (.inl x5), some (.inl x6), dv o13]) (S' := [.inr (.inr 187)]) (σ' := (SH L0, D14)) (fun _ _ => rfl) ?_
              have he0 := Option.some.inj hv
              subst he0
              exact ev_go 1 (pc' := 125) (L' := [some (.inr (.inr 187)), some (.inl x5), some (.inl x6), dv o13]) (S' := [.inl 0, .inr (.inr 187)]) (σ' := (SH L0, D14)) (fun _ _ => rfl) hJ
          · refine ev_iff hc 2 (pc' := 200) (L' := [some (.inr (.inr 187)), some (.inl x5), some (.inl x6), dv o13]) (S' := []) (σ' := (SH L0, D14)) (fun _ _ => rfl) ?_
            cases hb
            exact hK0 o13
        · refine ev_iff hc 3 (pc' := 200) (L' := [some (.inr (.inr 187)), some (.inl x5), some (.inl x6), dv o13]) (S' := []) (σ' := (SH L0, D14)) (fun _ _ => rfl) ?_
          cases hb
          exact hK0 o13
  clear h
  rcases ite_or hv with ⟨hc, hv⟩ | ⟨hc, hv⟩
  · refine ev_ift hc 2 (pc' := 14) (L' := [some (.inr (.inr 187)), none, none, none]) (S' := [.inr (.inr 187)]) (σ' := (SH L0, D)) (fun _ _ => rfl) ?_
    have he0 := Option.some.inj hv
    subst he0
    exact ev_go 2 (pc' := 19) (L' := [some (.inr (.inr 187)), none, none, none]) (S' := [.inl 1, .inr (.inr 187)]) (σ' := (SH L0, D)) (fun _ _ => rfl) hJ
  · refine ev_iff hc 2 (pc' := 18) (L' := [some (.inr (.inr 187)), none, none, none]) (S' := [.inr (.inr 187)]) (σ' := (SH L0, D)) (fun _ _ => rfl) ?_
    have he0 := Option.some.inj hv
    subst he0
    exact ev_go 1 (pc' := 19) (L' := [some (.inr (.inr 187)), none, none, none]) (S' := [.inl 0, .inr (.inr 187)]) (σ' := (SH L0, D)) (fun _ _ => rfl) hJ
set_option maxRecDepth 100000 in
set_option maxHeartbeats 4000000 in
theorem e_X12_readsTrace (L0 d : Nat) (hd : 4 ≤ d) {D : DT} {t0 : DT} (h : m_X12_readsTrace  D = some t0) : Ret mtab d 239 [.inr (.inr 187)] (SH L0, D) (none, (SH L0, t0)) := by
  obtain ⟨d, rfl⟩ : ∃ e, d = e + 1 := ⟨d - 1, by omega⟩
  refine Ret.of (code := k_X12_readsTrace) (ml := 4) rfl ?_
  show EvF mtab d k_X12_readsTrace 0 [some (.inr (.inr 187)), none, none, none] [] (SH L0, D) (none, (SH L0, t0))
  unfold m_X12_readsTrace at h
  obtain ⟨r, hr, h⟩ := bnd h
  have hX : (fun (r : (DT ⊕ DT)) => match r with | .inl r => (∀ (o21 : Option (Sum Int Nat)) (o22 : Option (Sum Int Nat)) (o23 : Option (Sum Int Nat)), EvF mtab d k_X12_readsTrace 69 [some (.inr (.inr 187)), dv o21, dv o22, dv o23] [] (SH L0, r) (none, (SH L0, t0))) | .inr r => (∀ (o25 : Option (Sum Int Nat)) (o26 : Option (Sum Int Nat)) (o27 : Option (Sum Int Nat)), EvF mtab d k_X12_readsTrace 112 [some (.inr (.inr 187)), dv o25, dv o26, dv o27] [] (SH L0, r) (none, (SH L0, t0)))) r := by
    rcases r with r | r
    · skip
      obtain ⟨D24, hre⟩ : ∃ q, q = r := ⟨r, rfl⟩
      subst hre
      intro o21 o22 o23
      show EvF mtab d k_X12_readsTrace 69 [some (.inr (.inr 187)), dv o21, dv o22, dv o23] [] (SH L0, D24) (none, (SH L0, t0))
      cases h
      exact ev_ret 1 (fun _ _ => rfl)
    obtain ⟨D28, hre⟩ : ∃ q, q = r := ⟨r, rfl⟩
    subst hre
    intro o25 o26 o27
    show EvF mtab d k_X12_readsTrace 112 [some (.inr (.inr 187)), dv o25, dv o26, dv o27] [] (SH L0, D28) (none, (SH L0, t0))
    cases h
    exact ev_ret 1 (fun _ _ => rfl)
  clear h
  refine ev_go 2 (pc' := 2) (L' := [some (.inr (.inr 187)), some (.inl 1), none, none]) (S' := []) (σ' := (SH L0, D)) (fun _ _ => rfl) ?_
  refine loop_ind (P := fun s => ∀ (o2 : Option (Sum Int Nat)) (o3 : Option (Sum Int Nat)), EvF mtab d k_X12_readsTrace 2 [some (.inr (.inr 187)), some (.inl s.1), dv o2, dv o3] [] (SH L0, s.2) (none, (SH L0, t0))) (X := fun r => match r with | .inl r => (∀ (o21 : Option (Sum Int Nat)) (o22 : Option (Sum Int Nat)) (o23 : Option (Sum Int Nat)), EvF mtab d k_X12_readsTrace 69 [some (.inr (.inr 187)), dv o21, dv o22, dv o23] [] (SH L0, r) (none, (SH L0, t0))) | .inr r => (∀ (o25 : Option (Sum Int Nat)) (o26 : Option (Sum Int Nat)) (o27 : Option (Sum Int Nat)), EvF mtab d k_X12_readsTrace 112 [some (.inr (.inr 187)), dv o25, dv o26, dv o27] [] (SH L0, r) (none, (SH L0, t0)))) hr hX ?_ none none
  clear hr hX
  intro s t hb hK0
  obtain ⟨l1_1, D4⟩ := s
  intro o2 o3
  show EvF mtab d k_X12_readsTrace 2 [some (.inr (.inr 187)), some (.inl l1_1), dv o2, dv o3] [] (SH L0, D4) (none, (SH L0, t0))
  unfold b_X12_readsTrace_2 at hb
  rcases ite_or hb with ⟨hc, hb⟩ | ⟨hc, hb⟩
  · refine ev_ift hc 2 (pc' := 112) (L' := [some (.inr (.inr 187)), some (.inl l1_1), dv o2, dv o3]) (S' := []) (σ' := (SH L0, D4)) (fun _ _ => rfl) ?_
    cases hb
    exact hK0 (some (.inl l1_1)) o2 o3
  · refine ev_iff hc 2 (pc' := 6) (L' := [some (.inr (.inr 187)), some (.inl l1_1), dv o2, dv o3]) (S' := []) (σ' := (SH L0, D4)) (fun _ _ => rfl) ?_
    rcases ite_or hb with ⟨hc, hb⟩ | ⟨hc, hb⟩
    · refine ev_ift hc 3 (pc' := 13) (L' := [some (.inr (.inr 187)), some (.inl l1_1), dv o2, dv o3]) (S' := []) (σ' := (SH L0, D4)) (fun _ _ => rfl) ?_
      obtain ⟨⟨x5, D6⟩, hx, hb⟩ := bnd hb
      refine ev_call (e_X12_known L0 d (by omega) hx) 2 (pc' := 17) (L' := [some (.inr (.inr 187)), some (.inl l1_1), dv o2, dv o3]) (S' := []) (fun _ _ => rfl) ?_
      obtain ⟨r, hr, hb⟩ := bnd hb
      have hX : (fun (r : DT) => ∀ (o13 : Option (Sum Int Nat)), EvF mtab d k_X12_readsTrace 62 [some (.inr (.inr 187)), some (.inl l1_1), some (.inl x5), dv o13] [] (SH L0, r) (none, (SH L0, t0))) r := by
        obtain ⟨D14, hre⟩ : ∃ q, q = r := ⟨r, rfl⟩
        subst hre
        intro o13
        show EvF mtab d k_X12_readsTrace 62 [some (.inr (.inr 187)), some (.inl l1_1), some (.inl x5), dv o13] [] (SH L0, D14) (none, (SH L0, t0))
        rcases ite_or hb with ⟨hc, hb⟩ | ⟨hc, hb⟩
        · refine ev_ift hc 3 (pc' := 69) (L' := [some (.inr (.inr 187)), some (.inl l1_1), some (.inl x5), dv o13]) (S' := []) (σ' := (SH L0, D14)) (fun _ _ => rfl) ?_
          cases hb
          exact hK0 (some (.inl l1_1)) (some (.inl x5)) o13
        · refine ev_iff hc 3 (pc' := 70) (L' := [some (.inr (.inr 187)), some (.inl l1_1), some (.inl x5), dv o13]) (S' := []) (σ' := (SH L0, D14)) (fun _ _ => rfl) ?_
          obtain ⟨x15, hx, hb⟩ := bnd hb
          refine ev_bind hx 7 (pc' := 85) (L' := fun x15 => [some (.inr (.inr 187)), some (.inl l1_1), some (.inl x5), dv o13]) (S' := fun x15 => [.inl x15, .inl 4816, .inr (.inr 188)]) (σ' := fun x15 => (SH L0, D14)) (fun _ _ => rfl) ?_
          obtain ⟨D16, hx, hb⟩ := bnd hb
          refine ev_bind hx 3 (pc' := 88) (L' := fun D16 => [some (.inr (.inr 187)), some (.inl l1_1), some (.inl x5), dv o13]) (S' := fun D16 => []) (σ' := fun D16 => (SH L0, D16)) (fun _ _ => rfl) ?_
          obtain ⟨x17, hx, hb⟩ := bnd hb
          refine ev_bind hx 5 (pc' := 97) (L' := fun x17 => [some (.inr (.inr 187)), some (.inl l1_1), some (.inl x5), dv o13]) (S' := fun x17 => [.inl x17, .inl 4262, .inr (.inr 188)]) (σ' := fun x17 => (SH L0, D16)) (fun _ _ => rfl) ?_
          obtain ⟨D18, hx, hb⟩ := bnd hb
          refine ev_bind hx 3 (pc' := 100) (L' := fun D18 => [some (.inr (.inr 187)), some (.inl l1_1), some (.inl x5), dv o13]) (S' := fun D18 => []) (σ' := fun D18 => (SH L0, D18)) (fun _ _ => rfl) ?_
          obtain ⟨D19, hx, hb⟩ := bnd hb
          refine ev_call (e_X12_reads L0 d (by omega) hx) 2 (pc' := 104) (L' := [some (.inr (.inr 187)), some (.inl l1_1), some (.inl x5), dv o13]) (S' := []) (fun _ _ => rfl) ?_
          obtain ⟨x20, hx, hb⟩ := bnd hb
          refine ev_call (e_X12_isName L0 d (by omega) hx) 2 (pc' := 108) (L' := [some (.inr (.inr 187)), some (.inl l1_1), some (.inl x5), dv o13]) (S' := []) (fun _ _ => rfl) ?_
          cases hb
          exact ev_go 2 (pc' := 2) (L' := [some (.inr (.inr 187)), some (.inl x20), some (.inl x5), dv o13]) (S' := []) (σ' := (SH L0, D19)) (fun _ _ => rfl) (hK0 (some (.inl x5)) o13)
      clear hb
      refine ev_go 3 (pc' := 20) (L' := [some (.inr (.inr 187)), some (.inl l1_1), some (.inl x5), some (.inl 0)]) (S' := []) (σ' := (SH L0, D6)) (fun _ _ => rfl) ?_
      refine loop_ind (P := fun s => EvF mtab d k_X12_readsTrace 20 [some (.inr (.inr 187)), some (.inl l1_1), some (.inl x5), some (.inl s.1)] [] (SH L0, s.2) (none, (SH L0, t0))) (X := fun r => ∀ (o13 : Option (Sum Int Nat)), EvF mtab d k_X12_readsTrace 62 [some (.inr (.inr 187)), some (.inl l1_1), some (.inl x5), dv o13] [] (SH L0, r) (none, (SH L0, t0))) hr hX ?_
      clear hr hX
      intro s t hb hK1
      obtain ⟨l3_7, D8⟩ := s
      show EvF mtab d k_X12_readsTrace 20 [some (.inr (.inr 187)), some (.inl l1_1), some (.inl x5), some (.inl l3_7)] [] (SH L0, D8) (none, (SH L0, t0))
      unfold b_X12_readsTrace_20 at hb
      obtain ⟨x9, hx, hb⟩ := bnd hb
      refine ev_bind hx 5 (pc' := 29) (L' := fun x9 => [some (.inr (.inr 187)), some (.inl l1_1), some (.inl x5), some (.inl l3_7)]) (S' := fun x9 => [.inl x9, .inl l3_7]) (σ' := fun x9 => (SH L0, D8)) (fun _ _ => rfl) ?_
      rcases ite_or hb with ⟨hc, hb⟩ | ⟨hc, hb⟩
      · refine ev_ift hc 1 (pc' := 32) (L' := [some (.inr (.inr 187)), some (.inl l1_1), some (.inl x5), some (.inl l3_7)]) (S' := []) (σ' := (SH L0, D8)) (fun _ _ => rfl) ?_
        obtain ⟨x10, hx, hb⟩ := bnd hb
        refine ev_bind hx 7 (pc' := 43) (L' := fun x10 => [some (.inr (.inr 187)), some (.inl l1_1), some (.inl x5), some (.inl l3_7)]) (S' := fun x10 => [.inl x10, .inr (.inr 187)]) (σ' := fun x10 => (SH L0, D8)) (fun _ _ => rfl) ?_
        obtain ⟨t11, hv, hb⟩ := bnd hb
        have hJ : EvF mtab d k_X12_readsTrace 52 [some (.inr (.inr 187)), some (.inl l1_1), some (.inl x5), some (.inl l3_7)] [.inl t11, .inr (.inr 187)] (SH L0, D8) (none, (SH L0, t0)) := by
          obtain ⟨D12, hx, hb⟩ := bnd hb
          refine ev_call (e_X12_must L0 d (by omega) hx) 2 (pc' := 56) (L' := [some (.inr (.inr 187)), some (.inl l1_1), some (.inl x5), some (.inl l3_7)]) (S' := []) (fun _ _ => rfl) ?_
          cases hb
          exact ev_go 2 (pc' := 20) (L' := [some (.inr (.inr 187)), some (.inl l1_1), some (.inl x5), some (.inl (w32 (l3_7 + 1)))]) (S' := []) (σ' := (SH L0, D12)) (fun _ _ => rfl) hK1
        clear hb
        rcases ite_or hv with ⟨hc, hv⟩ | ⟨hc, hv⟩
        · refine ev_ift hc 2 (pc' := 51) (L' := [some (.inr (.inr 187)), some (.inl l1_1), some (.inl x5), some (.inl l3_7)]) (S' := [.inr (.inr 187)]) (σ' := (SH L0, D8)) (fun _ _ => rfl) ?_
          have he0 := Option.some.inj hv
          subst he0
          exact ev_go 1 (pc' := 52) (L' := [some (.inr (.inr 187)), some (.inl l1_1), some (.inl x5), some (.inl l3_7)]) (S' := [.inl 0, .inr (.inr 187)]) (σ' := (SH L0, D8)) (fun _ _ => rfl) hJ
        · refine ev_iff hc 2 (pc' := 47) (L' := [some (.inr (.inr 187)), some (.inl l1_1), some (.inl x5), some (.inl l3_7)]) (S' := [.inr (.inr 187)]) (σ' := (SH L0, D8)) (fun _ _ => rfl) ?_
          have he0 := Option.some.inj hv
          subst he0
          exact ev_go 2 (pc' := 52) (L' := [some (.inr (.inr 187)), some (.inl l1_1), some (.inl x5), some (.inl l3_7)]) (S' := [.inl 1, .inr (.inr 187)]) (σ' := (SH L0, D8)) (fun _ _ => rfl) hJ
      · refine ev_iff hc 1 (pc' := 62) (L' := [some (.inr (.inr 187)), some (.inl l1_1), some (.inl x5), some (.inl l3_7)]) (S' := []) (σ' := (SH L0, D8)) (fun _ _ => rfl) ?_
        cases hb
        exact hK1 (some (.inl l3_7))
    · refine ev_iff hc 3 (pc' := 112) (L' := [some (.inr (.inr 187)), some (.inl l1_1), dv o2, dv o3]) (S' := []) (σ' := (SH L0, D4)) (fun _ _ => rfl) ?_
      cases hb
      exact hK0 (some (.inl l1_1)) o2 o3
set_option maxRecDepth 100000 in
set_option maxHeartbeats 4000000 in
theorem e_X12_readsOnce (L0 d : Nat) (hd : 5 ≤ d) {p1 : Int} {D : DT} {t0 : DT} (h : m_X12_readsOnce p1 D = some t0) : Ret mtab d 240 [.inr (.inr 187), .inl p1] (SH L0, D) (none, (SH L0, t0)) := by
  obtain ⟨d, rfl⟩ : ∃ e, d = e + 1 := ⟨d - 1, by omega⟩
  refine Ret.of (code := k_X12_readsOnce) (ml := 2) rfl ?_
  show EvF mtab d k_X12_readsOnce 0 [some (.inr (.inr 187)), some (.inl p1)] [] (SH L0, D) (none, (SH L0, t0))
  unfold m_X12_readsOnce at h
  obtain ⟨t1, hv, h⟩ := bnd h
  have hJ : EvF mtab d k_X12_readsOnce 17 [some (.inr (.inr 187)), some (.inl p1)] [.inl t1, .inr (.inr 187)] (SH L0, D) (none, (SH L0, t0)) := by
    obtain ⟨D2, hx, h⟩ := bnd h
    refine ev_call (e_X12_must L0 d (by omega) hx) 2 (pc' := 21) (L' := [some (.inr (.inr 187)), some (.inl p1)]) (S' := []) (fun _ _ => rfl) ?_
    rcases ite_or h with ⟨hc, h⟩ | ⟨hc, h⟩
    · refine ev_ift hc 11 (pc' := 40) (L' := [some (.inr (.inr 187)), some (.inl p1)]) (S' := []) (σ' := (SH L0, dput D2 187 47 (aor (D2 187 47) (ashl 1 p1)))) (fun _ _ => rfl) ?_
      cases h
      exact ev_ret 1 (fun _ _ => rfl)
    · refine ev_iff hc 11 (pc' := 41) (L' := [some (.inr (.inr 187)), some (.inl p1)]) (S' := []) (σ' := (SH L0, dput D2 187 47 (aor (D2 187 47) (ashl 1 p1)))) (fun _ _ => rfl) ?_
      obtain ⟨D3, hx, h⟩ := bnd h
      refine ev_call (e_X12_reads L0 d (by omega) hx) 2 (pc' := 45) (L' := [some (.inr (.inr 187)), some (.inl p1)]) (S' := []) (fun _ _ => rfl) ?_
      rcases ite_or h with ⟨hc, h⟩ | ⟨hc, h⟩
      · refine ev_ift hc 3 (pc' := 51) (L' := [some (.inr (.inr 187)), some (.inl p1)]) (S' := []) (σ' := (SH L0, D3)) (fun _ _ => rfl) ?_
        obtain ⟨⟨x4, D5⟩, hx, h⟩ := bnd h
        refine ev_call (e_X12_takes L0 d (by omega) hx) 7 (pc' := 66) (L' := [some (.inr (.inr 187)), some (.inl p1)]) (S' := [.inl 4259, .inr (.inr 188)]) (fun _ _ => rfl) ?_
        obtain ⟨D6, hx, h⟩ := bnd h
        refine ev_bind hx 1 (pc' := 67) (L' := fun D6 => [some (.inr (.inr 187)), some (.inl p1)]) (S' := fun D6 => []) (σ' := fun D6 => (SH L0, D6)) (fun _ _ => rfl) ?_
        cases h
        exact ev_ret 2 (fun _ _ => rfl)
      · refine ev_iff hc 3 (pc' := 70) (L' := [some (.inr (.inr 187)), some (.inl p1)]) (S' := []) (σ' := (SH L0, D3)) (fun _ _ => rfl) ?_
        rcases ite_or h with ⟨hc, h⟩ | ⟨hc, h⟩
        · refine ev_ift hc 3 (pc' := 76) (L' := [some (.inr (.inr 187)), some (.inl p1)]) (S' := []) (σ' := (SH L0, D3)) (fun _ _ => rfl) ?_
          obtain ⟨⟨x7, D8⟩, hx, h⟩ := bnd h
          refine ev_call (e_X12_takes L0 d (by omega) hx) 7 (pc' := 92) (L' := [some (.inr (.inr 187)), some (.inl p1)]) (S' := [.inl 4260, .inr (.inr 188)]) (fun _ _ => rfl) ?_
          obtain ⟨D9, hx, h⟩ := bnd h
          refine ev_bind hx 1 (pc' := 93) (L' := fun D9 => [some (.inr (.inr 187)), some (.inl p1)]) (S' := fun D9 => []) (σ' := fun D9 => (SH L0, D9)) (fun _ _ => rfl) ?_
          cases h
          exact ev_ret 2 (fun _ _ => rfl)
        · refine ev_iff hc 3 (pc' := 96) (L' := [some (.inr (.inr 187)), some (.inl p1)]) (S' := []) (σ' := (SH L0, D3)) (fun _ _ => rfl) ?_
          rcases ite_or h with ⟨hc, h⟩ | ⟨hc, h⟩
          · refine ev_ift hc 3 (pc' := 102) (L' := [some (.inr (.inr 187)), some (.inl p1)]) (S' := []) (σ' := (SH L0, D3)) (fun _ _ => rfl) ?_
            obtain ⟨⟨x10, D11⟩, hx, h⟩ := bnd h
            refine ev_call (e_X12_takes L0 d (by omega) hx) 7 (pc' := 116) (L' := [some (.inr (.inr 187)), some (.inl p1)]) (S' := [.inl 4261, .inr (.inr 188)]) (fun _ _ => rfl) ?_
            obtain ⟨D12, hx, h⟩ := bnd h
            refine ev_bind hx 1 (pc' := 117) (L' := fun D12 => [some (.inr (.inr 187)), some (.inl p1)]) (S' := fun D12 => []) (σ' := fun D12 => (SH L0, D12)) (fun _ _ => rfl) ?_
            cases h
            exact ev_ret 2 (fun _ _ => rfl)
          · refine ev_iff hc 3 (pc' := 120) (L' := [some (.inr (.inr 187)), some (.inl p1)]) (S' := []) (σ' := (SH L0, D3)) (fun _ _ => rfl) ?_
            obtain ⟨D13, hx, h⟩ := bnd h
            refine ev_call (e_X12_readsTrace L0 d (by omega) hx) 2 (pc' := 124) (L' := [some (.inr (.inr 187)), some (.inl p1)]) (S' := []) (fun _ _ => rfl) ?_
            cases h
            exact ev_ret 1 (fun _ _ => rfl)
  clear h
  rcases ite_or hv with ⟨hc, hv⟩ | ⟨hc, hv⟩
  · refine ev_ift hc 8 (pc' := 12) (L' := [some (.inr (.inr 187)), some (.inl p1)]) (S' := [.inr (.inr 187)]) (σ' := (SH L0, D)) (fun _ _ => rfl) ?_
    have he0 := Option.some.inj hv
    subst he0
    exact ev_go 2 (pc' := 17) (L' := [some (.inr (.inr 187)), some (.inl p1)]) (S' := [.inl 1, .inr (.inr 187)]) (σ' := (SH L0, D)) (fun _ _ => rfl) hJ
  · refine ev_iff hc 8 (pc' := 16) (L' := [some (.inr (.inr 187)), some (.inl p1)]) (S' := [.inr (.inr 187)]) (σ' := (SH L0, D)) (fun _ _ => rfl) ?_
    have he0 := Option.some.inj hv
    subst he0
    exact ev_go 1 (pc' := 17) (L' := [some (.inr (.inr 187)), some (.inl p1)]) (S' := [.inl 0, .inr (.inr 187)]) (σ' := (SH L0, D)) (fun _ _ => rfl) hJ
set_option maxRecDepth 100000 in
set_option maxHeartbeats 4000000 in
theorem e_X12_readsLine (L0 d : Nat) (hd : 7 ≤ d) {D : DT} {t0 : DT} (h : m_X12_readsLine  D = some t0) : Ret mtab d 241 [.inr (.inr 187)] (SH L0, D) (none, (SH L0, t0)) := by
  obtain ⟨d, rfl⟩ : ∃ e, d = e + 1 := ⟨d - 1, by omega⟩
  refine Ret.of (code := k_X12_readsLine) (ml := 2) rfl ?_
  show EvF mtab d k_X12_readsLine 0 [some (.inr (.inr 187)), none] [] (SH L0, D) (none, (SH L0, t0))
  unfold m_X12_readsLine at h
  obtain ⟨x1, hx, h⟩ := bnd h
  refine ev_call (e_X12_key L0 d (by omega) hx) 2 (pc' := 4) (L' := [some (.inr (.inr 187)), none]) (S' := []) (fun _ _ => rfl) ?_
  obtain ⟨D5, hv, h⟩ := bnd h
  have hJ : EvF mtab d k_X12_readsLine 37 [some (.inr (.inr 187)), some (.inl x1)] [] (SH L0, D5) (none, (SH L0, t0)) := by
    obtain ⟨D6, hx, h⟩ := bnd h
    refine ev_call (e_X12_semicolon L0 d (by omega) hx) 2 (pc' := 41) (L' := [some (.inr (.inr 187)), some (.inl x1)]) (S' := []) (fun _ _ => rfl) ?_
    cases h
    exact ev_ret 1 (fun _ _ => rfl)
  clear h
  rcases ite_or hv with ⟨hc, hv⟩ | ⟨hc, hv⟩
  · refine ev_ift hc 4 (pc' := 10) (L' := [some (.inr (.inr 187)), some (.inl x1)]) (S' := []) (σ' := (SH L0, D)) (fun _ _ => rfl) ?_
    obtain ⟨D2, hx, hv⟩ := bnd hv
    refine ev_call (e_X12_readsBlock L0 d (by omega) hx) 2 (pc' := 14) (L' := [some (.inr (.inr 187)), some (.inl x1)]) (S' := []) (fun _ _ => rfl) ?_
    have he0 := Option.some.inj hv
    subst he0
    exact ev_go 1 (pc' := 37) (L' := [some (.inr (.inr 187)), some (.inl x1)]) (S' := []) (σ' := (SH L0, D2)) (fun _ _ => rfl) hJ
  · refine ev_iff hc 4 (pc' := 17) (L' := [some (.inr (.inr 187)), some (.inl x1)]) (S' := []) (σ' := (SH L0, D)) (fun _ _ => rfl) ?_
    rcases ite_or hv with ⟨hc, hv⟩ | ⟨hc, hv⟩
    · refine ev_ift hc 3 (pc' := 31) (L' := [some (.inr (.inr 187)), some (.inl x1)]) (S' := []) (σ' := (SH L0, D)) (fun _ _ => rfl) ?_
      obtain ⟨D3, hx, hv⟩ := bnd hv
      refine ev_call (e_X12_must L0 d (by omega) hx) 4 (pc' := 37) (L' := [some (.inr (.inr 187)), some (.inl x1)]) (S' := []) (fun _ _ => rfl) ?_
      have he0 := Option.some.inj hv
      subst he0
      exact hJ
    · refine ev_iff hc 3 (pc' := 23) (L' := [some (.inr (.inr 187)), some (.inl x1)]) (S' := []) (σ' := (SH L0, D)) (fun _ _ => rfl) ?_
      obtain ⟨D4, hx, hv⟩ := bnd hv
      refine ev_call (e_X12_readsOnce L0 d (by omega) hx) 3 (pc' := 28) (L' := [some (.inr (.inr 187)), some (.inl x1)]) (S' := []) (fun _ _ => rfl) ?_
      have he0 := Option.some.inj hv
      subst he0
      exact ev_go 1 (pc' := 37) (L' := [some (.inr (.inr 187)), some (.inl x1)]) (S' := []) (σ' := (SH L0, D4)) (fun _ _ => rfl) hJ
set_option maxRecDepth 100000 in
set_option maxHeartbeats 4000000 in
theorem e_X12_blockOf (L0 d : Nat) (hd : 1 ≤ d) {p1 p2 : Int} {D : DT} {t0 : Int} (h : m_X12_blockOf p1 p2 D = some t0) : Ret mtab d 242 [.inr (.inr 187), .inl p1, .inl p2] (SH L0, D) (some (.inl t0), (SH L0, D)) := by
  obtain ⟨d, rfl⟩ : ∃ e, d = e + 1 := ⟨d - 1, by omega⟩
  refine Ret.of (code := k_X12_blockOf) (ml := 5) rfl ?_
  show EvF mtab d k_X12_blockOf 0 [some (.inr (.inr 187)), some (.inl p1), some (.inl p2), none, none] [] (SH L0, D) (some (.inl t0), (SH L0, D))
  unfold m_X12_blockOf at h
  obtain ⟨r, hr, h⟩ := bnd h
  have hX : (fun (r : (Int ⊕ Unit)) => match r with | .inl r => (∀ (o5 : Option (Sum Int Nat)), EvF mtab d k_X12_blockOf 40 [some (.inr (.inr 187)), some (.inl p1), some (.inl p2), dv o5, some (.inl r)] [] (SH L0, D) (some (.inl t0), (SH L0, D))) | .inr r => (∀ (o7 : Option (Sum Int Nat)) (o8 : Option (Sum Int Nat)), EvF mtab d k_X12_blockOf 52 [some (.inr (.inr 187)), some (.inl p1), some (.inl p2), dv o7, dv o8] [] (SH L0, D) (some (.inl t0), (SH L0, D)))) r := by
    rcases r with r | r
    · skip
      obtain ⟨l4_6, hre⟩ : ∃ q, q = r := ⟨r, rfl⟩
      subst hre
      intro o5
      show EvF mtab d k_X12_blockOf 40 [some (.inr (.inr 187)), some (.inl p1), some (.inl p2), dv o5, some (.inl l4_6)] [] (SH L0, D) (some (.inl t0), (SH L0, D))
      cases h
      exact ev_ret 2 (fun _ _ => rfl)
    intro o7 o8
    show EvF mtab d k_X12_blockOf 52 [some (.inr (.inr 187)), some (.inl p1), some (.inl p2), dv o7, dv o8] [] (SH L0, D) (some (.inl t0), (SH L0, D))
    cases h
    exact ev_ret 2 (fun _ _ => rfl)
  clear h
  refine ev_go 4 (pc' := 5) (L' := [some (.inr (.inr 187)), some (.inl p1), some (.inl p2), some (.inl p2), some (.inl 0)]) (S' := []) (σ' := (SH L0, D)) (fun _ _ => rfl) ?_
  refine loop_ind (P := fun s => EvF mtab d k_X12_blockOf 5 [some (.inr (.inr 187)), some (.inl p1), some (.inl p2), some (.inl s.1), some (.inl s.2)] [] (SH L0, D) (some (.inl t0), (SH L0, D))) (X := fun r => match r with | .inl r => (∀ (o5 : Option (Sum Int Nat)), EvF mtab d k_X12_blockOf 40 [some (.inr (.inr 187)), some (.inl p1), some (.inl p2), dv o5, some (.inl r)] [] (SH L0, D) (some (.inl t0), (SH L0, D))) | .inr r => (∀ (o7 : Option (Sum Int Nat)) (o8 : Option (Sum Int Nat)), EvF mtab d k_X12_blockOf 52 [some (.inr (.inr 187)), some (.inl p1), some (.inl p2), dv o7, dv o8] [] (SH L0, D) (some (.inl t0), (SH L0, D)))) hr hX ?_
  clear hr hX
  intro s t hb hK0
  obtain ⟨l3_1, l4_2⟩ := s
  show EvF mtab d k_X12_blockOf 5 [some (.inr (.inr 187)), some (.inl p1), some (.inl p2), some (.inl l3_1), some (.inl l4_2)] [] (SH L0, D) (some (.inl t0), (SH L0, D))
  unfold b_X12_blockOf_5 at hb
  obtain ⟨x3, hx, hb⟩ := bnd hb
  refine ev_bind hx 5 (pc' := 15) (L' := fun x3 => [some (.inr (.inr 187)), some (.inl p1), some (.inl p2), some (.inl l3_1), some (.inl l4_2)]) (S' := fun x3 => [.inl x3, .inl l4_2]) (σ' := fun x3 => (SH L0, D)) (fun _ _ => rfl) ?_
  rcases ite_or hb with ⟨hc, hb⟩ | ⟨hc, hb⟩
  · refine ev_ift hc 1 (pc' := 18) (L' := [some (.inr (.inr 187)), some (.inl p1), some (.inl p2), some (.inl l3_1), some (.inl l4_2)]) (S' := []) (σ' := (SH L0, D)) (fun _ _ => rfl) ?_
    obtain ⟨x4, hx, hb⟩ := bnd hb
    refine ev_bind hx 6 (pc' := 29) (L' := fun x4 => [some (.inr (.inr 187)), some (.inl p1), some (.inl p2), some (.inl l3_1), some (.inl l4_2)]) (S' := fun x4 => [.inl x4]) (σ' := fun x4 => (SH L0, D)) (fun _ _ => rfl) ?_
    rcases ite_or hb with ⟨hc, hb⟩ | ⟨hc, hb⟩
    · refine ev_ift hc 2 (pc' := 36) (L' := [some (.inr (.inr 187)), some (.inl p1), some (.inl p2), some (.inl l3_1), some (.inl l4_2)]) (S' := []) (σ' := (SH L0, D)) (fun _ _ => rfl) ?_
      rcases ite_or hb with ⟨hc, hb⟩ | ⟨hc, hb⟩
      · refine ev_ift hc 2 (pc' := 40) (L' := [some (.inr (.inr 187)), some (.inl p1), some (.inl p2), some (.inl l3_1), some (.inl l4_2)]) (S' := []) (σ' := (SH L0, D)) (fun _ _ => rfl) ?_
        cases hb
        exact hK0 (some (.inl l3_1))
      · refine ev_iff hc 2 (pc' := 43) (L' := [some (.inr (.inr 187)), some (.inl p1), some (.inl p2), some (.inl l3_1), some (.inl l4_2)]) (S' := []) (σ' := (SH L0, D)) (fun _ _ => rfl) ?_
        cases hb
        exact ev_go 3 (pc' := 5) (L' := [some (.inr (.inr 187)), some (.inl p1), some (.inl p2), some (.inl (w32 (l3_1 + (-1)))), some (.inl (w32 (l4_2 + 1)))]) (S' := []) (σ' := (SH L0, D)) (fun _ _ => rfl) hK0
    · refine ev_iff hc 2 (pc' := 33) (L' := [some (.inr (.inr 187)), some (.inl p1), some (.inl p2), some (.inl l3_1), some (.inl l4_2)]) (S' := []) (σ' := (SH L0, D)) (fun _ _ => rfl) ?_
      cases hb
      exact ev_go 3 (pc' := 5) (L' := [some (.inr (.inr 187)), some (.inl p1), some (.inl p2), some (.inl l3_1), some (.inl (w32 (l4_2 + 1)))]) (S' := []) (σ' := (SH L0, D)) (fun _ _ => rfl) hK0
  · refine ev_iff hc 1 (pc' := 52) (L' := [some (.inr (.inr 187)), some (.inl p1), some (.inl p2), some (.inl l3_1), some (.inl l4_2)]) (S' := []) (σ' := (SH L0, D)) (fun _ _ => rfl) ?_
    cases hb
    exact hK0 (some (.inl l3_1)) (some (.inl l4_2))
set_option maxRecDepth 100000 in
set_option maxHeartbeats 4000000 in
theorem e_X12_addsArc (L0 d : Nat) (hd : 1 ≤ d) {p1 p2 p3 : Int} {D : DT} {t0 : DT} (h : m_X12_addsArc p1 p2 p3 D = some t0) : Ret mtab d 243 [.inr (.inr 187), .inl p1, .inl p2, .inl p3] (SH L0, D) (none, (SH L0, t0)) := by
  obtain ⟨d, rfl⟩ : ∃ e, d = e + 1 := ⟨d - 1, by omega⟩
  refine Ret.of (code := k_X12_addsArc) (ml := 5) rfl ?_
  show EvF mtab d k_X12_addsArc 0 [some (.inr (.inr 187)), some (.inl p1), some (.inl p2), some (.inl p3), none] [] (SH L0, D) (none, (SH L0, t0))
  unfold m_X12_addsArc at h
  obtain ⟨x1, hx, h⟩ := bnd h
  refine ev_bind hx 4 (pc' := 8) (L' := fun x1 => [some (.inr (.inr 187)), some (.inl p1), some (.inl p2), some (.inl p3), none]) (S' := fun x1 => [.inl x1]) (σ' := fun x1 => (SH L0, D)) (fun _ _ => rfl) ?_
  obtain ⟨D2, hx, h⟩ := bnd h
  refine ev_bind hx 8 (pc' := 22) (L' := fun D2 => [some (.inr (.inr 187)), some (.inl p1), some (.inl p2), some (.inl p3), some (.inl x1)]) (S' := fun D2 => []) (σ' := fun D2 => (SH L0, D2)) (fun _ _ => rfl) ?_
  obtain ⟨D3, hx, h⟩ := bnd h
  refine ev_bind hx 7 (pc' := 34) (L' := fun D3 => [some (.inr (.inr 187)), some (.inl p1), some (.inl p2), some (.inl p3), some (.inl x1)]) (S' := fun D3 => []) (σ' := fun D3 => (SH L0, D3)) (fun _ _ => rfl) ?_
  obtain ⟨D4, hx, h⟩ := bnd h
  refine ev_bind hx 7 (pc' := 46) (L' := fun D4 => [some (.inr (.inr 187)), some (.inl p1), some (.inl p2), some (.inl p3), some (.inl x1)]) (S' := fun D4 => []) (σ' := fun D4 => (SH L0, D4)) (fun _ _ => rfl) ?_
  obtain ⟨x5, hx, h⟩ := bnd h
  refine ev_bind hx 5 (pc' := 55) (L' := fun x5 => [some (.inr (.inr 187)), some (.inl p1), some (.inl p2), some (.inl p3), some (.inl x1)]) (S' := fun x5 => [.inl x5, .inl 4258, .inr (.inr 188)]) (σ' := fun x5 => (SH L0, D4)) (fun _ _ => rfl) ?_
  obtain ⟨D6, hx, h⟩ := bnd h
  refine ev_bind hx 3 (pc' := 58) (L' := fun D6 => [some (.inr (.inr 187)), some (.inl p1), some (.inl p2), some (.inl p3), some (.inl x1)]) (S' := fun D6 => []) (σ' := fun D6 => (SH L0, D6)) (fun _ _ => rfl) ?_
  cases h
  exact ev_ret 1 (fun _ _ => rfl)
set_option maxRecDepth 100000 in
set_option maxHeartbeats 4000000 in
theorem e_X12_ends (L0 d : Nat) (hd : 2 ≤ d) {D : DT} {t0 : DT} (h : m_X12_ends  D = some t0) : Ret mtab d 244 [.inr (.inr 187)] (SH L0, D) (none, (SH L0, t0)) := by
  obtain ⟨d, rfl⟩ : ∃ e, d = e + 1 := ⟨d - 1, by omega⟩
  refine Ret.of (code := k_X12_ends) (ml := 4) rfl ?_
  show EvF mtab d k_X12_ends 0 [some (.inr (.inr 187)), none, none, none] [] (SH L0, D) (none, (SH L0, t0))
  unfold m_X12_ends at h
  obtain ⟨r, hr, h⟩ := bnd h
  have hX : (fun (r : DT) => ∀ (o7 : Option (Sum Int Nat)), EvF mtab d k_X12_ends 40 [some (.inr (.inr 187)), dv o7, none, none] [] (SH L0, r) (none, (SH L0, t0))) r := by
    obtain ⟨D8, hre⟩ : ∃ q, q = r := ⟨r, rfl⟩
    subst hre
    intro o7
    show EvF mtab d k_X12_ends 40 [some (.inr (.inr 187)), dv o7, none, none] [] (SH L0, D8) (none, (SH L0, t0))
    obtain ⟨r, hr, h⟩ := bnd h
    have hX : (fun (r : DT) => ∀ (o23 : Option (Sum Int Nat)) (o24 : Option (Sum Int Nat)), EvF mtab d k_X12_ends 121 [some (.inr (.inr 187)), dv o23, dv o24, none] [] (SH L0, r) (none, (SH L0, t0))) r := by
      obtain ⟨D25, hre⟩ : ∃ q, q = r := ⟨r, rfl⟩
      subst hre
      intro o23 o24
      show EvF mtab d k_X12_ends 121 [some (.inr (.inr 187)), dv o23, dv o24, none] [] (SH L0, D25) (none, (SH L0, t0))
      rcases ite_or h with ⟨hc, h⟩ | ⟨hc, h⟩
      · refine ev_ift hc 3 (pc' := 128) (L' := [some (.inr (.inr 187)), dv o23, dv o24, none]) (S' := []) (σ' := (SH L0, D25)) (fun _ _ => rfl) ?_
        cases h
        exact ev_ret 1 (fun _ _ => rfl)
      · refine ev_iff hc 3 (pc' := 129) (L' := [some (.inr (.inr 187)), dv o23, dv o24, none]) (S' := []) (σ' := (SH L0, D25)) (fun _ _ => rfl) ?_
        obtain ⟨r, hr, h⟩ := bnd h
        have hX : (fun (r : DT) => ∀ (o32 : Option (Sum Int Nat)), EvF mtab d k_X12_ends 166 [some (.inr (.inr 187)), dv o32, dv o24, none] [] (SH L0, r) (none, (SH L0, t0))) r := by
          obtain ⟨D33, hre⟩ : ∃ q, q = r := ⟨r, rfl⟩
          subst hre
          intro o32
          show EvF mtab d k_X12_ends 166 [some (.inr (.inr 187)), dv o32, dv o24, none] [] (SH L0, D33) (none, (SH L0, t0))
          obtain ⟨r, hr, h⟩ := bnd h
          have hX : (fun (r : DT) => ∀ (o53 : Option (Sum Int Nat)) (o54 : Option (Sum Int Nat)) (o55 : Option (Sum Int Nat)), EvF mtab d k_X12_ends 284 [some (.inr (.inr 187)), dv o53, dv o54, dv o55] [] (SH L0, r) (none, (SH L0, t0))) r := by
            obtain ⟨D56, hre⟩ : ∃ q, q = r := ⟨r, rfl⟩
            subst hre
            intro o53 o54 o55
            show EvF mtab d k_X12_ends 284 [some (.inr (.inr 187)), dv o53, dv o54, dv o55] [] (SH L0, D56) (none, (SH L0, t0))
            cases h
            exact ev_ret 1 (fun _ _ => rfl)
          clear h
          refine ev_go 2 (pc' := 168) (L' := [some (.inr (.inr 187)), some (.inl 0), dv o24, none]) (S' := []) (σ' := (SH L0, D33)) (fun _ _ => rfl) ?_
          refine loop_ind (P := fun s => ∀ (o35 : Option (Sum Int Nat)) (o36 : Option (Sum Int Nat)), EvF mtab d k_X12_ends 168 [some (.inr (.inr 187)), some (.inl s.1), dv o35, dv o36] [] (SH L0, s.2) (none, (SH L0, t0))) (X := fun r => ∀ (o53 : Option (Sum Int Nat)) (o54 : Option (Sum Int Nat)) (o55 : Option (Sum Int Nat)), EvF mtab d k_X12_ends 284 [some (.inr (.inr 187)), dv o53, dv o54, dv o55] [] (SH L0, r) (none, (SH L0, t0))) hr hX ?_ o24 none
          clear hr hX
          intro s t hb hK0
          obtain ⟨l1_34, D37⟩ := s
          intro o35 o36
          show EvF mtab d k_X12_ends 168 [some (.inr (.inr 187)), some (.inl l1_34), dv o35, dv o36] [] (SH L0, D37) (none, (SH L0, t0))
          unfold b_X12_ends_168 at hb
          obtain ⟨x38, hx, hb⟩ := bnd hb
          refine ev_bind hx 5 (pc' := 177) (L' := fun x38 => [some (.inr (.inr 187)), some (.inl l1_34), dv o35, dv o36]) (S' := fun x38 => [.inl x38, .inl l1_34]) (σ' := fun x38 => (SH L0, D37)) (fun _ _ => rfl) ?_
          rcases ite_or hb with ⟨hc, hb⟩ | ⟨hc, hb⟩
          · refine ev_ift hc 1 (pc' := 180) (L' := [some (.inr (.inr 187)), some (.inl l1_34), dv o35, dv o36]) (S' := []) (σ' := (SH L0, D37)) (fun _ _ => rfl) ?_
            obtain ⟨x39, hx, hb⟩ := bnd hb
            refine ev_bind hx 9 (pc' := 197) (L' := fun x39 => [some (.inr (.inr 187)), some (.inl l1_34), dv o35, dv o36]) (S' := fun x39 => [.inl x39, .inl (w32 (4506 + l1_34)), .inr (.inr 188)]) (σ' := fun x39 => (SH L0, D37)) (fun _ _ => rfl) ?_
            obtain ⟨D40, hx, hb⟩ := bnd hb
            refine ev_bind hx 1 (pc' := 198) (L' := fun D40 => [some (.inr (.inr 187)), some (.inl l1_34), dv o35, dv o36]) (S' := fun D40 => []) (σ' := fun D40 => (SH L0, D40)) (fun _ _ => rfl) ?_
            obtain ⟨x41, hx, hb⟩ := bnd hb
            refine ev_bind hx 6 (pc' := 208) (L' := fun x41 => [some (.inr (.inr 187)), some (.inl l1_34), dv o35, dv o36]) (S' := fun x41 => [.inl x41]) (σ' := fun x41 => (SH L0, D40)) (fun _ _ => rfl) ?_
            obtain ⟨r, hr, hb⟩ := bnd hb
            have hX : (fun (r : DT) => ∀ (o51 : Option (Sum Int Nat)), EvF mtab d k_X12_ends 278 [some (.inr (.inr 187)), some (.inl l1_34), some (.inl x41), dv o51] [] (SH L0, r) (none, (SH L0, t0))) r := by
              obtain ⟨D52, hre⟩ : ∃ q, q = r := ⟨r, rfl⟩
              subst hre
              intro o51
              show EvF mtab d k_X12_ends 278 [some (.inr (.inr 187)), some (.inl l1_34), some (.inl x41), dv o51] [] (SH L0, D52) (none, (SH L0, t0))
              cases hb
              exact ev_go 2 (pc' := 168) (L' := [some (.inr (.inr 187)), some (.inl (w32 (l1_34 + 1))), some (.inl x41), dv o51]) (S' := []) (σ' := (SH L0, D52)) (fun _ _ => rfl) (hK0 (some (.inl x41)) o51)
            clear hb
            refine ev_go 3 (pc' := 211) (L' := [some (.inr (.inr 187)), some (.inl l1_34), some (.inl x41), some (.inl 0)]) (S' := []) (σ' := (SH L0, D40)) (fun _ _ => rfl) ?_
            refine loop_ind (P := fun s => EvF mtab d k_X12_ends 211 [some (.inr (.inr 187)), some (.inl l1_34), some (.inl x41), some (.inl s.1)] [] (SH L0, s.2) (none, (SH L0, t0))) (X := fun r => ∀ (o51 : Option (Sum Int Nat)), EvF mtab d k_X12_ends 278 [some (.inr (.inr 187)), some (.inl l1_34), some (.inl x41), dv o51] [] (SH L0, r) (none, (SH L0, t0))) hr hX ?_
            clear hr hX
            intro s t hb hK1
            obtain ⟨l3_42, D43⟩ := s
            show EvF mtab d k_X12_ends 211 [some (.inr (.inr 187)), some (.inl l1_34), some (.inl x41), some (.inl l3_42)] [] (SH L0, D43) (none, (SH L0, t0))
            unfold b_X12_ends_211 at hb
            obtain ⟨t44, hv, hb⟩ := bnd hb
            have hJ : EvF mtab d k_X12_ends 222 [some (.inr (.inr 187)), some (.inl l1_34), some (.inl x41), some (.inl l3_42)] [.inl t44, .inl l3_42] (SH L0, D43) (none, (SH L0, t0)) := by
              rcases ite_or hb with ⟨hc, hb⟩ | ⟨hc, hb⟩
              · refine ev_ift hc 1 (pc' := 225) (L' := [some (.inr (.inr 187)), some (.inl l1_34), some (.inl x41), some (.inl l3_42)]) (S' := []) (σ' := (SH L0, D43)) (fun _ _ => rfl) ?_
                obtain ⟨t48, hv, hb⟩ := bnd hb
                have hJ : EvF mtab d k_X12_ends 259 [some (.inr (.inr 187)), some (.inl l1_34), some (.inl x41), some (.inl l3_42)] [.inl t48, .inl l1_34, .inr (.inr 187)] (SH L0, D43) (none, (SH L0, t0)) := by
                  obtain ⟨x49, hx, hb⟩ := bnd hb
                  refine ev_bind hx 8 (pc' := 269) (L' := fun x49 => [some (.inr (.inr 187)), some (.inl l1_34), some (.inl x41), some (.inl l3_42)]) (S' := fun x49 => [.inl x49, .inl t48, .inl l1_34, .inr (.inr 187)]) (σ' := fun x49 => (SH L0, D43)) (fun _ _ => rfl) ?_
                  obtain ⟨D50, hx, hb⟩ := bnd hb
                  refine ev_call (e_X12_addsArc L0 d (by omega) hx) 1 (pc' := 272) (L' := [some (.inr (.inr 187)), some (.inl l1_34), some (.inl x41), some (.inl l3_42)]) (S' := []) (fun _ _ => rfl) ?_
                  cases hb
                  exact ev_go 2 (pc' := 211) (L' := [some (.inr (.inr 187)), some (.inl l1_34), some (.inl x41), some (.inl (w32 (l3_42 + 1)))]) (S' := []) (σ' := (SH L0, D50)) (fun _ _ => rfl) hK1
                clear hb
                rcases ite_or hv with ⟨hc, hv⟩ | ⟨hc, hv⟩
                · refine ev_ift hc 4 (pc' := 231) (L' := [some (.inr (.inr 187)), some (.inl l1_34), some (.inl x41), some (.inl l3_42)]) (S' := [.inl l1_34, .inr (.inr 187)]) (σ' := (SH L0, D43)) (fun _ _ => rfl) ?_
                  have he0 := Option.some.inj hv
                  subst he0
                  exact ev_go 2 (pc' := 259) (L' := [some (.inr (.inr 187)), some (.inl l1_34), some (.inl x41), some (.inl l3_42)]) (S' := [.inl (-1), .inl l1_34, .inr (.inr 187)]) (σ' := (SH L0, D43)) (fun _ _ => rfl) hJ
                · refine ev_iff hc 4 (pc' := 235) (L' := [some (.inr (.inr 187)), some (.inl l1_34), some (.inl x41), some (.inl l3_42)]) (S' := [.inl l1_34, .inr (.inr 187)]) (σ' := (SH L0, D43)) (fun _ _ => rfl) ?_
                  obtain ⟨x45, hx, hv⟩ := bnd hv
                  refine ev_bind hx 7 (pc' := 246) (L' := fun x45 => [some (.inr (.inr 187)), some (.inl l1_34), some (.inl x41), some (.inl l3_42)]) (S' := fun x45 => [.inl x45, .inr (.inr 187), .inl l1_34, .inr (.inr 187)]) (σ' := fun x45 => (SH L0, D43)) (fun _ _ => rfl) ?_
                  obtain ⟨x46, hx, hv⟩ := bnd hv
                  refine ev_bind hx 8 (pc' := 256) (L' := fun x46 => [some (.inr (.inr 187)), some (.inl l1_34), some (.inl x41), some (.inl l3_42)]) (S' := fun x46 => [.inl x46, .inl x45, .inr (.inr 187), .inl l1_34, .inr (.inr 187)]) (σ' := fun x46 => (SH L0, D43)) (fun _ _ => rfl) ?_
                  obtain ⟨x47, hx, hv⟩ := bnd hv
                  refine ev_call (e_X12_blockOf L0 d (by omega) hx) 1 (pc' := 259) (L' := [some (.inr (.inr 187)), some (.inl l1_34), some (.inl x41), some (.inl l3_42)]) (S' := [.inl l1_34, .inr (.inr 187)]) (fun _ _ => rfl) ?_
                  have he0 := Option.some.inj hv
                  subst he0
                  exact hJ
              · refine ev_iff hc 1 (pc' := 278) (L' := [some (.inr (.inr 187)), some (.inl l1_34), some (.inl x41), some (.inl l3_42)]) (S' := []) (σ' := (SH L0, D43)) (fun _ _ => rfl) ?_
                cases hb
                exact hK1 (some (.inl l3_42))
            clear hb
            rcases ite_or hv with ⟨hc, hv⟩ | ⟨hc, hv⟩
            · refine ev_ift hc 4 (pc' := 217) (L' := [some (.inr (.inr 187)), some (.inl l1_34), some (.inl x41), some (.inl l3_42)]) (S' := [.inl l3_42]) (σ' := (SH L0, D43)) (fun _ _ => rfl) ?_
              have he0 := Option.some.inj hv
              subst he0
              exact ev_go 2 (pc' := 222) (L' := [some (.inr (.inr 187)), some (.inl l1_34), some (.inl x41), some (.inl l3_42)]) (S' := [.inl 2, .inl l3_42]) (σ' := (SH L0, D43)) (fun _ _ => rfl) hJ
            · refine ev_iff hc 4 (pc' := 221) (L' := [some (.inr (.inr 187)), some (.inl l1_34), some (.inl x41), some (.inl l3_42)]) (S' := [.inl l3_42]) (σ' := (SH L0, D43)) (fun _ _ => rfl) ?_
              have he0 := Option.some.inj hv
              subst he0
              exact ev_go 1 (pc' := 222) (L' := [some (.inr (.inr 187)), some (.inl l1_34), some (.inl x41), some (.inl l3_42)]) (S' := [.inl 1, .inl l3_42]) (σ' := (SH L0, D43)) (fun _ _ => rfl) hJ
          · refine ev_iff hc 1 (pc' := 284) (L' := [some (.inr (.inr 187)), some (.inl l1_34), dv o35, dv o36]) (S' := []) (σ' := (SH L0, D37)) (fun _ _ => rfl) ?_
            cases hb
            exact hK0 (some (.inl l1_34)) o35 o36
        clear h
        refine ev_go 2 (pc' := 131) (L' := [some (.inr (.inr 187)), some (.inl 0), dv o24, none]) (S' := []) (σ' := (SH L0, D25)) (fun _ _ => rfl) ?_
        refine loop_ind (P := fun s => EvF mtab d k_X12_ends 131 [some (.inr (.inr 187)), some (.inl s.1), dv o24, none] [] (SH L0, s.2) (none, (SH L0, t0))) (X := fun r => ∀ (o32 : Option (Sum Int Nat)), EvF mtab d k_X12_ends 166 [some (.inr (.inr 187)), dv o32, dv o24, none] [] (SH L0, r) (none, (SH L0, t0))) hr hX ?_
        clear hr hX
        intro s t hb hK0
        obtain ⟨l1_26, D27⟩ := s
        show EvF mtab d k_X12_ends 131 [some (.inr (.inr 187)), some (.inl l1_26), dv o24, none] [] (SH L0, D27) (none, (SH L0, t0))
        unfold b_X12_ends_131 at hb
        obtain ⟨x28, hx, hb⟩ := bnd hb
        refine ev_bind hx 5 (pc' := 140) (L' := fun x28 => [some (.inr (.inr 187)), some (.inl l1_26), dv o24, none]) (S' := fun x28 => [.inl x28, .inl l1_26]) (σ' := fun x28 => (SH L0, D27)) (fun _ _ => rfl) ?_
        rcases ite_or hb with ⟨hc, hb⟩ | ⟨hc, hb⟩
        · refine ev_ift hc 1 (pc' := 143) (L' := [some (.inr (.inr 187)), some (.inl l1_26), dv o24, none]) (S' := []) (σ' := (SH L0, D27)) (fun _ _ => rfl) ?_
          obtain ⟨x29, hx, hb⟩ := bnd hb
          refine ev_call (e_X12_blockOf L0 d (by omega) hx) 6 (pc' := 151) (L' := [some (.inr (.inr 187)), some (.inl l1_26), dv o24, none]) (S' := [.inl (-1), .inr (.inr 187)]) (fun _ _ => rfl) ?_
          obtain ⟨x30, hx, hb⟩ := bnd hb
          refine ev_bind hx 4 (pc' := 157) (L' := fun x30 => [some (.inr (.inr 187)), some (.inl l1_26), dv o24, none]) (S' := fun x30 => [.inl x30, .inl x29, .inl (-1), .inr (.inr 187)]) (σ' := fun x30 => (SH L0, D27)) (fun _ _ => rfl) ?_
          obtain ⟨D31, hx, hb⟩ := bnd hb
          refine ev_call (e_X12_addsArc L0 d (by omega) hx) 1 (pc' := 160) (L' := [some (.inr (.inr 187)), some (.inl l1_26), dv o24, none]) (S' := []) (fun _ _ => rfl) ?_
          cases hb
          exact ev_go 2 (pc' := 131) (L' := [some (.inr (.inr 187)), some (.inl (w32 (l1_26 + 1))), dv o24, none]) (S' := []) (σ' := (SH L0, D31)) (fun _ _ => rfl) hK0
        · refine ev_iff hc 1 (pc' := 166) (L' := [some (.inr (.inr 187)), some (.inl l1_26), dv o24, none]) (S' := []) (σ' := (SH L0, D27)) (fun _ _ => rfl) ?_
          cases hb
          exact hK0 (some (.inl l1_26))
    clear h
    refine ev_go 2 (pc' := 42) (L' := [some (.inr (.inr 187)), some (.inl 0), none, none]) (S' := []) (σ' := (SH L0, D8)) (fun _ _ => rfl) ?_
    refine loop_ind (P := fun s => ∀ (o10 : Option (Sum Int Nat)), EvF mtab d k_X12_ends 42 [some (.inr (.inr 187)), some (.inl s.1), dv o10, none] [] (SH L0, s.2) (none, (SH L0, t0))) (X := fun r => ∀ (o23 : Option (Sum Int Nat)) (o24 : Option (Sum Int Nat)), EvF mtab d k_X12_ends 121 [some (.inr (.inr 187)), dv o23, dv o24, none] [] (SH L0, r) (none, (SH L0, t0))) hr hX ?_ none
    clear hr hX
    intro s t hb hK0
    obtain ⟨l1_9, D11⟩ := s
    intro o10
    show EvF mtab d k_X12_ends 42 [some (.inr (.inr 187)), some (.inl l1_9), dv o10, none] [] (SH L0, D11) (none, (SH L0, t0))
    unfold b_X12_ends_42 at hb
    obtain ⟨x12, hx, hb⟩ := bnd hb
    refine ev_bind hx 5 (pc' := 51) (L' := fun x12 => [some (.inr (.inr 187)), some (.inl l1_9), dv o10, none]) (S' := fun x12 => [.inl x12, .inl l1_9]) (σ' := fun x12 => (SH L0, D11)) (fun _ _ => rfl) ?_
    rcases ite_or hb with ⟨hc, hb⟩ | ⟨hc, hb⟩
    · refine ev_ift hc 1 (pc' := 54) (L' := [some (.inr (.inr 187)), some (.inl l1_9), dv o10, none]) (S' := []) (σ' := (SH L0, D11)) (fun _ _ => rfl) ?_
      obtain ⟨r, hr, hb⟩ := bnd hb
      have hX : (fun (r : DT) => ∀ (o21 : Option (Sum Int Nat)), EvF mtab d k_X12_ends 115 [some (.inr (.inr 187)), some (.inl l1_9), dv o21, none] [] (SH L0, r) (none, (SH L0, t0))) r := by
        obtain ⟨D22, hre⟩ : ∃ q, q = r := ⟨r, rfl⟩
        subst hre
        intro o21
        show EvF mtab d k_X12_ends 115 [some (.inr (.inr 187)), some (.inl l1_9), dv o21, none] [] (SH L0, D22) (none, (SH L0, t0))
        cases hb
        exact ev_go 2 (pc' := 42) (L' := [some (.inr (.inr 187)), some (.inl (w32 (l1_9 + 1))), dv o21, none]) (S' := []) (σ' := (SH L0, D22)) (fun _ _ => rfl) (hK0 o21)
      clear hb
      refine ev_go 2 (pc' := 56) (L' := [some (.inr (.inr 187)), some (.inl l1_9), some (.inl 0), none]) (S' := []) (σ' := (SH L0, D11)) (fun _ _ => rfl) ?_
      refine loop_ind (P := fun s => EvF mtab d k_X12_ends 56 [some (.inr (.inr 187)), some (.inl l1_9), some (.inl s.1), none] [] (SH L0, s.2) (none, (SH L0, t0))) (X := fun r => ∀ (o21 : Option (Sum Int Nat)), EvF mtab d k_X12_ends 115 [some (.inr (.inr 187)), some (.inl l1_9), dv o21, none] [] (SH L0, r) (none, (SH L0, t0))) hr hX ?_
      clear hr hX
      intro s t hb hK1
      obtain ⟨l2_13, D14⟩ := s
      show EvF mtab d k_X12_ends 56 [some (.inr (.inr 187)), some (.inl l1_9), some (.inl l2_13), none] [] (SH L0, D14) (none, (SH L0, t0))
      unfold b_X12_ends_56 at hb
      obtain ⟨x15, hx, hb⟩ := bnd hb
      refine ev_bind hx 7 (pc' := 67) (L' := fun x15 => [some (.inr (.inr 187)), some (.inl l1_9), some (.inl l2_13), none]) (S' := fun x15 => [.inl x15, .inl l2_13]) (σ' := fun x15 => (SH L0, D14)) (fun _ _ => rfl) ?_
      rcases ite_or hb with ⟨hc, hb⟩ | ⟨hc, hb⟩
      · refine ev_ift hc 1 (pc' := 70) (L' := [some (.inr (.inr 187)), some (.inl l1_9), some (.inl l2_13), none]) (S' := []) (σ' := (SH L0, D14)) (fun _ _ => rfl) ?_
        obtain ⟨x16, hx, hb⟩ := bnd hb
        refine ev_bind hx 9 (pc' := 81) (L' := fun x16 => [some (.inr (.inr 187)), some (.inl l1_9), some (.inl l2_13), none]) (S' := fun x16 => [.inl x16, .inr (.inr 187)]) (σ' := fun x16 => (SH L0, D14)) (fun _ _ => rfl) ?_
        obtain ⟨x17, hx, hb⟩ := bnd hb
        refine ev_bind hx 8 (pc' := 95) (L' := fun x17 => [some (.inr (.inr 187)), some (.inl l1_9), some (.inl l2_13), none]) (S' := fun x17 => [.inl x17, .inr (.inr 220), .inl x16, .inr (.inr 187)]) (σ' := fun x17 => (SH L0, D14)) (fun _ _ => rfl) ?_
        obtain ⟨x18, hx, hb⟩ := bnd hb
        refine ev_bind hx 1 (pc' := 96) (L' := fun x18 => [some (.inr (.inr 187)), some (.inl l1_9), some (.inl l2_13), none]) (S' := fun x18 => [.inl x18, .inl x16, .inr (.inr 187)]) (σ' := fun x18 => (SH L0, D14)) (fun _ _ => rfl) ?_
        obtain ⟨t19, hv, hb⟩ := bnd hb
        have hJ : EvF mtab d k_X12_ends 104 [some (.inr (.inr 187)), some (.inl l1_9), some (.inl l2_13), none] [.inl t19, .inr (.inr 187)] (SH L0, D14) (none, (SH L0, t0)) := by
          obtain ⟨D20, hx, hb⟩ := bnd hb
          refine ev_call (e_X12_must L0 d (by omega) hx) 2 (pc' := 109) (L' := [some (.inr (.inr 187)), some (.inl l1_9), some (.inl l2_13), none]) (S' := []) (fun _ _ => rfl) ?_
          cases hb
          exact ev_go 2 (pc' := 56) (L' := [some (.inr (.inr 187)), some (.inl l1_9), some (.inl (w32 (l2_13 + 1))), none]) (S' := []) (σ' := (SH L0, D20)) (fun _ _ => rfl) hK1
        clear hb
        rcases ite_or hv with ⟨hc, hv⟩ | ⟨hc, hv⟩
        · refine ev_ift hc 1 (pc' := 99) (L' := [some (.inr (.inr 187)), some (.inl l1_9), some (.inl l2_13), none]) (S' := [.inr (.inr 187)]) (σ' := (SH L0, D14)) (fun _ _ => rfl) ?_
          have he0 := Option.some.inj hv
          subst he0
          exact ev_go 2 (pc' := 104) (L' := [some (.inr (.inr 187)), some (.inl l1_9), some (.inl l2_13), none]) (S' := [.inl 1, .inr (.inr 187)]) (σ' := (SH L0, D14)) (fun _ _ => rfl) hJ
        · refine ev_iff hc 1 (pc' := 103) (L' := [some (.inr (.inr 187)), some (.inl l1_9), some (.inl l2_13), none]) (S' := [.inr (.inr 187)]) (σ' := (SH L0, D14)) (fun _ _ => rfl) ?_
          have he0 := Option.some.inj hv
          subst he0
          exact ev_go 1 (pc' := 104) (L' := [some (.inr (.inr 187)), some (.inl l1_9), some (.inl l2_13), none]) (S' := [.inl 0, .inr (.inr 187)]) (σ' := (SH L0, D14)) (fun _ _ => rfl) hJ
      · refine ev_iff hc 1 (pc' := 115) (L' := [some (.inr (.inr 187)), some (.inl l1_9), some (.inl l2_13), none]) (S' := []) (σ' := (SH L0, D14)) (fun _ _ => rfl) ?_
        cases hb
        exact hK1 (some (.inl l2_13))
    · refine ev_iff hc 1 (pc' := 121) (L' := [some (.inr (.inr 187)), some (.inl l1_9), dv o10, none]) (S' := []) (σ' := (SH L0, D11)) (fun _ _ => rfl) ?_
      cases hb
      exact hK0 (some (.inl l1_9)) o10
  clear h
  refine ev_go 2 (pc' := 2) (L' := [some (.inr (.inr 187)), some (.inl 0), none, none]) (S' := []) (σ' := (SH L0, D)) (fun _ _ => rfl) ?_
  refine loop_ind (P := fun s => EvF mtab d k_X12_ends 2 [some (.inr (.inr 187)), some (.inl s.1), none, none] [] (SH L0, s.2) (none, (SH L0, t0))) (X := fun r => ∀ (o7 : Option (Sum Int Nat)), EvF mtab d k_X12_ends 40 [some (.inr (.inr 187)), dv o7, none, none] [] (SH L0, r) (none, (SH L0, t0))) hr hX ?_
  clear hr hX
  intro s t hb hK0
  obtain ⟨l1_1, D2⟩ := s
  show EvF mtab d k_X12_ends 2 [some (.inr (.inr 187)), some (.inl l1_1), none, none] [] (SH L0, D2) (none, (SH L0, t0))
  unfold b_X12_ends_2 at hb
  obtain ⟨x3, hx, hb⟩ := bnd hb
  refine ev_bind hx 5 (pc' := 11) (L' := fun x3 => [some (.inr (.inr 187)), some (.inl l1_1), none, none]) (S' := fun x3 => [.inl x3, .inl l1_1]) (σ' := fun x3 => (SH L0, D2)) (fun _ _ => rfl) ?_
  rcases ite_or hb with ⟨hc, hb⟩ | ⟨hc, hb⟩
  · refine ev_ift hc 1 (pc' := 14) (L' := [some (.inr (.inr 187)), some (.inl l1_1), none, none]) (S' := []) (σ' := (SH L0, D2)) (fun _ _ => rfl) ?_
    obtain ⟨x4, hx, hb⟩ := bnd hb
    refine ev_bind hx 5 (pc' := 21) (L' := fun x4 => [some (.inr (.inr 187)), some (.inl l1_1), none, none]) (S' := fun x4 => [.inl x4, .inr (.inr 187)]) (σ' := fun x4 => (SH L0, D2)) (fun _ _ => rfl) ?_
    obtain ⟨t5, hv, hb⟩ := bnd hb
    have hJ : EvF mtab d k_X12_ends 29 [some (.inr (.inr 187)), some (.inl l1_1), none, none] [.inl t5, .inr (.inr 187)] (SH L0, D2) (none, (SH L0, t0)) := by
      obtain ⟨D6, hx, hb⟩ := bnd hb
      refine ev_call (e_X12_must L0 d (by omega) hx) 2 (pc' := 34) (L' := [some (.inr (.inr 187)), some (.inl l1_1), none, none]) (S' := []) (fun _ _ => rfl) ?_
      cases hb
      exact ev_go 2 (pc' := 2) (L' := [some (.inr (.inr 187)), some (.inl (w32 (l1_1 + 1))), none, none]) (S' := []) (σ' := (SH L0, D6)) (fun _ _ => rfl) hK0
    clear hb
    rcases ite_or hv with ⟨hc, hv⟩ | ⟨hc, hv⟩
    · refine ev_ift hc 1 (pc' := 24) (L' := [some (.inr (.inr 187)), some (.inl l1_1), none, none]) (S' := [.inr (.inr 187)]) (σ' := (SH L0, D2)) (fun _ _ => rfl) ?_
      have he0 := Option.some.inj hv
      subst he0
      exact ev_go 2 (pc' := 29) (L' := [some (.inr (.inr 187)), some (.inl l1_1), none, none]) (S' := [.inl 1, .inr (.inr 187)]) (σ' := (SH L0, D2)) (fun _ _ => rfl) hJ
    · refine ev_iff hc 1 (pc' := 28) (L' := [some (.inr (.inr 187)), some (.inl l1_1), none, none]) (S' := [.inr (.inr 187)]) (σ' := (SH L0, D2)) (fun _ _ => rfl) ?_
      have he0 := Option.some.inj hv
      subst he0
      exact ev_go 1 (pc' := 29) (L' := [some (.inr (.inr 187)), some (.inl l1_1), none, none]) (S' := [.inl 0, .inr (.inr 187)]) (σ' := (SH L0, D2)) (fun _ _ => rfl) hJ
  · refine ev_iff hc 1 (pc' := 40) (L' := [some (.inr (.inr 187)), some (.inl l1_1), none, none]) (S' := []) (σ' := (SH L0, D2)) (fun _ _ => rfl) ?_
    cases hb
    exact hK0 (some (.inl l1_1))
set_option maxRecDepth 100000 in
set_option maxHeartbeats 4000000 in
theorem e_X12_load (L0 d : Nat) (hd : 8 ≤ d) {p1 : Int} {D : DT} {t0 : (Int × DT)} (h : m_X12_load p1 D = some t0) : Ret mtab d 245 [.inr (.inr 187), .inl p1] (SH L0, D) (some (.inl t0.1), (SH L0, t0.2)) := by
  obtain ⟨d, rfl⟩ : ∃ e, d = e + 1 := ⟨d - 1, by omega⟩
  refine Ret.of (code := k_X12_load) (ml := 3) rfl ?_
  show EvF mtab d k_X12_load 0 [some (.inr (.inr 187)), some (.inl p1), none] [] (SH L0, D) (some (.inl t0.1), (SH L0, t0.2))
  unfold m_X12_load at h
  obtain ⟨x1, hx, h⟩ := bnd h
  refine ev_call (e_X12_isIn L0 d (by omega) hx) 11 (pc' := 19) (L' := [some (.inr (.inr 187)), some (.inl p1), none]) (S' := []) (fun _ _ => rfl) ?_
  rcases ite_or h with ⟨hc, h⟩ | ⟨hc, h⟩
  · refine ev_ift hc 1 (pc' := 22) (L' := [some (.inr (.inr 187)), some (.inl p1), none]) (S' := []) (σ' := (SH L0, dput (dput D 187 3 0) 187 2 0)) (fun _ _ => rfl) ?_
    obtain ⟨⟨x2, D3⟩, hx, h⟩ := bnd h
    refine ev_call (e_X12_refuse L0 d (by omega) hx) 3 (pc' := 27) (L' := [some (.inr (.inr 187)), some (.inl p1), none]) (S' := []) (fun _ _ => rfl) ?_
    cases h
    exact ev_ret 1 (fun _ _ => rfl)
  · refine ev_iff hc 1 (pc' := 28) (L' := [some (.inr (.inr 187)), some (.inl p1), none]) (S' := []) (σ' := (SH L0, dput (dput D 187 3 0) 187 2 0)) (fun _ _ => rfl) ?_
    obtain ⟨D4, hx, h⟩ := bnd h
    refine ev_call (e_X12_plain L0 d (by omega) hx) 15 (pc' := 55) (L' := [some (.inr (.inr 187)), some (.inl p1), none]) (S' := []) (fun _ _ => rfl) ?_
    obtain ⟨D5, hx, h⟩ := bnd h
    refine ev_call (e_X12_reads L0 d (by omega) hx) 2 (pc' := 59) (L' := [some (.inr (.inr 187)), some (.inl p1), none]) (S' := []) (fun _ _ => rfl) ?_
    obtain ⟨r, hr, h⟩ := bnd h
    have hX : (fun (r : DT) => EvF mtab d k_X12_load 80 [some (.inr (.inr 187)), some (.inl p1), none] [] (SH L0, r) (some (.inl t0.1), (SH L0, t0.2))) r := by
      obtain ⟨D9, hre⟩ : ∃ q, q = r := ⟨r, rfl⟩
      subst hre
      show EvF mtab d k_X12_load 80 [some (.inr (.inr 187)), some (.inl p1), none] [] (SH L0, D9) (some (.inl t0.1), (SH L0, t0.2))
      obtain ⟨r, hr, h⟩ := bnd h
      have hX : (fun (r : DT) => EvF mtab d k_X12_load 101 [some (.inr (.inr 187)), some (.inl p1), none] [] (SH L0, r) (some (.inl t0.1), (SH L0, t0.2))) r := by
        obtain ⟨D12, hre⟩ : ∃ q, q = r := ⟨r, rfl⟩
        subst hre
        show EvF mtab d k_X12_load 101 [some (.inr (.inr 187)), some (.inl p1), none] [] (SH L0, D12) (some (.inl t0.1), (SH L0, t0.2))
        obtain ⟨D14, hv, h⟩ := bnd h
        have hJ : EvF mtab d k_X12_load 112 [some (.inr (.inr 187)), some (.inl p1), none] [] (SH L0, D14) (some (.inl t0.1), (SH L0, t0.2)) := by
          obtain ⟨t15, hv, h⟩ := bnd h
          have hJ : EvF mtab d k_X12_load 141 [some (.inr (.inr 187)), some (.inl p1), none] [.inl t15, .inr (.inr 187)] (SH L0, dput (dput D14 187 34 0) 187 35 ((dput D14 187 34 0) 187 37)) (some (.inl t0.1), (SH L0, t0.2)) := by
            rcases ite_or h with ⟨hc, h⟩ | ⟨hc, h⟩
            · refine ev_ift hc 4 (pc' := 151) (L' := [some (.inr (.inr 187)), some (.inl p1), none]) (S' := []) (σ' := (SH L0, dput (dput (dput D14 187 34 0) 187 35 ((dput D14 187 34 0) 187 37)) 187 36 t15)) (fun _ _ => rfl) ?_
              obtain ⟨⟨x16, D17⟩, hx, h⟩ := bnd h
              refine ev_call (e_X12_refuse L0 d (by omega) hx) 3 (pc' := 157) (L' := [some (.inr (.inr 187)), some (.inl p1), none]) (S' := []) (fun _ _ => rfl) ?_
              cases h
              exact ev_ret 1 (fun _ _ => rfl)
            · refine ev_iff hc 4 (pc' := 158) (L' := [some (.inr (.inr 187)), some (.inl p1), none]) (S' := []) (σ' := (SH L0, dput (dput (dput D14 187 34 0) 187 35 ((dput D14 187 34 0) 187 37)) 187 36 t15)) (fun _ _ => rfl) ?_
              obtain ⟨D18, hx, h⟩ := bnd h
              refine ev_call (e_X12_keeps L0 d (by omega) hx) 2 (pc' := 162) (L' := [some (.inr (.inr 187)), some (.inl p1), none]) (S' := []) (fun _ _ => rfl) ?_
              obtain ⟨D19, hx, h⟩ := bnd h
              refine ev_call (e_X12_copy L0 d (by omega) hx) 4 (pc' := 170) (L' := [some (.inr (.inr 187)), some (.inl p1), none]) (S' := []) (fun _ _ => rfl) ?_
              obtain ⟨D20, hx, h⟩ := bnd h
              refine ev_call (e_X12_laysSource L0 d (by omega) hx) 2 (pc' := 174) (L' := [some (.inr (.inr 187)), some (.inl p1), none]) (S' := []) (fun _ _ => rfl) ?_
              obtain ⟨r, hr, h⟩ := bnd h
              have hX : (fun (r : DT) => ∀ (o26 : Option (Sum Int Nat)), EvF mtab d k_X12_load 206 [some (.inr (.inr 187)), some (.inl p1), dv o26] [] (SH L0, r) (some (.inl t0.1), (SH L0, t0.2))) r := by
                obtain ⟨D27, hre⟩ : ∃ q, q = r := ⟨r, rfl⟩
                subst hre
                intro o26
                show EvF mtab d k_X12_load 206 [some (.inr (.inr 187)), some (.inl p1), dv o26] [] (SH L0, D27) (some (.inl t0.1), (SH L0, t0.2))
                obtain ⟨x28, hx, h⟩ := bnd h
                refine ev_call (e_X12_blocks L0 d (by omega) hx) 2 (pc' := 210) (L' := [some (.inr (.inr 187)), some (.inl p1), dv o26]) (S' := []) (fun _ _ => rfl) ?_
                cases h
                exact ev_ret 1 (fun _ _ => rfl)
              clear h
              refine ev_go 2 (pc' := 176) (L' := [some (.inr (.inr 187)), some (.inl p1), some (.inl 0)]) (S' := []) (σ' := (SH L0, D20)) (fun _ _ => rfl) ?_
              refine loop_ind (P := fun s => EvF mtab d k_X12_load 176 [some (.inr (.inr 187)), some (.inl p1), some (.inl s.1)] [] (SH L0, s.2) (some (.inl t0.1), (SH L0, t0.2))) (X := fun r => ∀ (o26 : Option (Sum Int Nat)), EvF mtab d k_X12_load 206 [some (.inr (.inr 187)), some (.inl p1), dv o26] [] (SH L0, r) (some (.inl t0.1), (SH L0, t0.2))) hr hX ?_
              clear hr hX
              intro s t hb hK0
              obtain ⟨l2_21, D22⟩ := s
              show EvF mtab d k_X12_load 176 [some (.inr (.inr 187)), some (.inl p1), some (.inl l2_21)] [] (SH L0, D22) (some (.inl t0.1), (SH L0, t0.2))
              unfold b_X12_load_176 at hb
              obtain ⟨x23, hx, hb⟩ := bnd hb
              refine ev_call (e_X12_blocks L0 d (by omega) hx) 3 (pc' := 181) (L' := [some (.inr (.inr 187)), some (.inl p1), some (.inl l2_21)]) (S' := [.inl l2_21]) (fun _ _ => rfl) ?_
              rcases ite_or hb with ⟨hc, hb⟩ | ⟨hc, hb⟩
              · refine ev_ift hc 1 (pc' := 184) (L' := [some (.inr (.inr 187)), some (.inl p1), some (.inl l2_21)]) (S' := []) (σ' := (SH L0, D22)) (fun _ _ => rfl) ?_
                obtain ⟨x24, hx, hb⟩ := bnd hb
                refine ev_bind hx 9 (pc' := 199) (L' := fun x24 => [some (.inr (.inr 187)), some (.inl p1), some (.inl l2_21)]) (S' := fun x24 => [.inl x24, .inl (w32 (568 + l2_21)), .inr (.inr 188)]) (σ' := fun x24 => (SH L0, D22)) (fun _ _ => rfl) ?_
                obtain ⟨D25, hx, hb⟩ := bnd hb
                refine ev_bind hx 1 (pc' := 200) (L' := fun D25 => [some (.inr (.inr 187)), some (.inl p1), some (.inl l2_21)]) (S' := fun D25 => []) (σ' := fun D25 => (SH L0, D25)) (fun _ _ => rfl) ?_
                cases hb
                exact ev_go 2 (pc' := 176) (L' := [some (.inr (.inr 187)), some (.inl p1), some (.inl (w32 (l2_21 + 1)))]) (S' := []) (σ' := (SH L0, D25)) (fun _ _ => rfl) hK0
              · refine ev_iff hc 1 (pc' := 206) (L' := [some (.inr (.inr 187)), some (.inl p1), some (.inl l2_21)]) (S' := []) (σ' := (SH L0, D22)) (fun _ _ => rfl) ?_
                cases hb
                exact hK0 (some (.inl l2_21))
          clear h
          rcases ite_or hv with ⟨hc, hv⟩ | ⟨hc, hv⟩
          · refine ev_ift hc 11 (pc' := 133) (L' := [some (.inr (.inr 187)), some (.inl p1), none]) (S' := [.inr (.inr 187)]) (σ' := (SH L0, dput (dput D14 187 34 0) 187 35 ((dput D14 187 34 0) 187 37))) (fun _ _ => rfl) ?_
            have he0 := Option.some.inj hv
            subst he0
            exact ev_go 3 (pc' := 141) (L' := [some (.inr (.inr 187)), some (.inl p1), none]) (S' := [.inl ((dput (dput D14 187 34 0) 187 35 ((dput D14 187 34 0) 187 37)) 187 38), .inr (.inr 187)]) (σ' := (SH L0, dput (dput D14 187 34 0) 187 35 ((dput D14 187 34 0) 187 37))) (fun _ _ => rfl) hJ
          · refine ev_iff hc 11 (pc' := 140) (L' := [some (.inr (.inr 187)), some (.inl p1), none]) (S' := [.inr (.inr 187)]) (σ' := (SH L0, dput (dput D14 187 34 0) 187 35 ((dput D14 187 34 0) 187 37))) (fun _ _ => rfl) ?_
            have he0 := Option.some.inj hv
            subst he0
            exact ev_go 1 (pc' := 141) (L' := [some (.inr (.inr 187)), some (.inl p1), none]) (S' := [.inl (-1), .inr (.inr 187)]) (σ' := (SH L0, dput (dput D14 187 34 0) 187 35 ((dput D14 187 34 0) 187 37))) (fun _ _ => rfl) hJ
        clear h
        rcases ite_or hv with ⟨hc, hv⟩ | ⟨hc, hv⟩
        · refine ev_ift hc 3 (pc' := 108) (L' := [some (.inr (.inr 187)), some (.inl p1), none]) (S' := []) (σ' := (SH L0, D12)) (fun _ _ => rfl) ?_
          obtain ⟨D13, hx, hv⟩ := bnd hv
          refine ev_call (e_X12_ends L0 d (by omega) hx) 2 (pc' := 112) (L' := [some (.inr (.inr 187)), some (.inl p1), none]) (S' := []) (fun _ _ => rfl) ?_
          have he0 := Option.some.inj hv
          subst he0
          exact hJ
        · refine ev_iff hc 3 (pc' := 112) (L' := [some (.inr (.inr 187)), some (.inl p1), none]) (S' := []) (σ' := (SH L0, D12)) (fun _ _ => rfl) ?_
          have he0 := Option.some.inj hv
          subst he0
          exact hJ
      clear h
      refine loop_ind (P := fun s => EvF mtab d k_X12_load 80 [some (.inr (.inr 187)), some (.inl p1), none] [] (SH L0, s) (some (.inl t0.1), (SH L0, t0.2))) (X := fun r => EvF mtab d k_X12_load 101 [some (.inr (.inr 187)), some (.inl p1), none] [] (SH L0, r) (some (.inl t0.1), (SH L0, t0.2))) hr hX ?_
      clear hr hX
      intro s t hb hK0
      obtain ⟨D10, hre⟩ : ∃ q, q = s := ⟨s, rfl⟩
      subst hre
      show EvF mtab d k_X12_load 80 [some (.inr (.inr 187)), some (.inl p1), none] [] (SH L0, D10) (some (.inl t0.1), (SH L0, t0.2))
      unfold b_X12_load_80 at hb
      rcases ite_or hb with ⟨hc, hb⟩ | ⟨hc, hb⟩
      · refine ev_ift hc 3 (pc' := 87) (L' := [some (.inr (.inr 187)), some (.inl p1), none]) (S' := []) (σ' := (SH L0, D10)) (fun _ _ => rfl) ?_
        rcases ite_or hb with ⟨hc, hb⟩ | ⟨hc, hb⟩
        · refine ev_ift hc 3 (pc' := 101) (L' := [some (.inr (.inr 187)), some (.inl p1), none]) (S' := []) (σ' := (SH L0, D10)) (fun _ _ => rfl) ?_
          cases hb
          exact hK0
        · refine ev_iff hc 3 (pc' := 94) (L' := [some (.inr (.inr 187)), some (.inl p1), none]) (S' := []) (σ' := (SH L0, D10)) (fun _ _ => rfl) ?_
          obtain ⟨D11, hx, hb⟩ := bnd hb
          refine ev_call (e_X12_readsLine L0 d (by omega) hx) 2 (pc' := 98) (L' := [some (.inr (.inr 187)), some (.inl p1), none]) (S' := []) (fun _ _ => rfl) ?_
          cases hb
          exact ev_go 1 (pc' := 80) (L' := [some (.inr (.inr 187)), some (.inl p1), none]) (S' := []) (σ' := (SH L0, D11)) (fun _ _ => rfl) hK0
      · refine ev_iff hc 3 (pc' := 101) (L' := [some (.inr (.inr 187)), some (.inl p1), none]) (S' := []) (σ' := (SH L0, D10)) (fun _ _ => rfl) ?_
        cases hb
        exact hK0
    clear h
    refine loop_ind (P := fun s => EvF mtab d k_X12_load 59 [some (.inr (.inr 187)), some (.inl p1), none] [] (SH L0, s) (some (.inl t0.1), (SH L0, t0.2))) (X := fun r => EvF mtab d k_X12_load 80 [some (.inr (.inr 187)), some (.inl p1), none] [] (SH L0, r) (some (.inl t0.1), (SH L0, t0.2))) hr hX ?_
    clear hr hX
    intro s t hb hK0
    obtain ⟨D6, hre⟩ : ∃ q, q = s := ⟨s, rfl⟩
    subst hre
    show EvF mtab d k_X12_load 59 [some (.inr (.inr 187)), some (.inl p1), none] [] (SH L0, D6) (some (.inl t0.1), (SH L0, t0.2))
    unfold b_X12_load_59 at hb
    rcases ite_or hb with ⟨hc, hb⟩ | ⟨hc, hb⟩
    · refine ev_ift hc 3 (pc' := 66) (L' := [some (.inr (.inr 187)), some (.inl p1), none]) (S' := []) (σ' := (SH L0, D6)) (fun _ _ => rfl) ?_
      obtain ⟨x7, hx, hb⟩ := bnd hb
      refine ev_call (e_X12_key L0 d (by omega) hx) 2 (pc' := 70) (L' := [some (.inr (.inr 187)), some (.inl p1), none]) (S' := []) (fun _ _ => rfl) ?_
      rcases ite_or hb with ⟨hc, hb⟩ | ⟨hc, hb⟩
      · refine ev_ift hc 1 (pc' := 73) (L' := [some (.inr (.inr 187)), some (.inl p1), none]) (S' := []) (σ' := (SH L0, D6)) (fun _ _ => rfl) ?_
        obtain ⟨D8, hx, hb⟩ := bnd hb
        refine ev_call (e_X12_readsFun L0 d (by omega) hx) 2 (pc' := 77) (L' := [some (.inr (.inr 187)), some (.inl p1), none]) (S' := []) (fun _ _ => rfl) ?_
        cases hb
        exact ev_go 1 (pc' := 59) (L' := [some (.inr (.inr 187)), some (.inl p1), none]) (S' := []) (σ' := (SH L0, D8)) (fun _ _ => rfl) hK0
      · refine ev_iff hc 1 (pc' := 80) (L' := [some (.inr (.inr 187)), some (.inl p1), none]) (S' := []) (σ' := (SH L0, D6)) (fun _ _ => rfl) ?_
        cases hb
        exact hK0
    · refine ev_iff hc 3 (pc' := 80) (L' := [some (.inr (.inr 187)), some (.inl p1), none]) (S' := []) (σ' := (SH L0, D6)) (fun _ _ => rfl) ?_
      cases hb
      exact hK0
