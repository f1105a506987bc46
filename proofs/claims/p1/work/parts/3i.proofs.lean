set_option maxRecDepth 100000 in
set_option maxHeartbeats 4000000 in
theorem e_X12_leastIn (L0 d : Nat) (hd : 1 ≤ d) {p1 : Int} {D : DT} {t0 : Int} (h : m_X12_leastIn p1 D = some t0) : Ret mtab d 193 [.inr (.inr 187), .inl p1] (SH L0, D) (some (.inl t0), (SH L0, D)) := by
  obtain ⟨d, rfl⟩ : ∃ e, d = e + 1 := ⟨d - 1, by omega⟩
  refine Ret.of (code := k_X12_leastIn) (ml := 4) rfl ?_
  show EvF mtab d k_X12_leastIn 0 [some (.inr (.inr 187)), some (.inl p1), none, none] [] (SH L0, D) (some (.inl t0), (SH L0, D))
  unfold m_X12_leastIn at h
  obtain ⟨r, hr, h⟩ := bnd h
  have hX : (fun (r : Int) => ∀ (o6 : Option (Sum Int Nat)), EvF mtab d k_X12_leastIn 29 [some (.inr (.inr 187)), some (.inl p1), some (.inl r), dv o6] [] (SH L0, D) (some (.inl t0), (SH L0, D))) r := by
    obtain ⟨l2_5, hre⟩ : ∃ q, q = r := ⟨r, rfl⟩
    subst hre
    intro o6
    show EvF mtab d k_X12_leastIn 29 [some (.inr (.inr 187)), some (.inl p1), some (.inl l2_5), dv o6] [] (SH L0, D) (some (.inl t0), (SH L0, D))
    cases h
    exact ev_ret 2 (fun _ _ => rfl)
  clear h
  refine ev_go 4 (pc' := 4) (L' := [some (.inr (.inr 187)), some (.inl p1), some (.inl p1), some (.inl p1)]) (S' := []) (σ' := (SH L0, D)) (fun _ _ => rfl) ?_
  refine loop_ind (P := fun s => EvF mtab d k_X12_leastIn 4 [some (.inr (.inr 187)), some (.inl p1), some (.inl s.1), some (.inl s.2)] [] (SH L0, D) (some (.inl t0), (SH L0, D))) (X := fun r => ∀ (o6 : Option (Sum Int Nat)), EvF mtab d k_X12_leastIn 29 [some (.inr (.inr 187)), some (.inl p1), some (.inl r), dv o6] [] (SH L0, D) (some (.inl t0), (SH L0, D))) hr hX ?_
  clear hr hX
  intro s t hb hK0
  obtain ⟨l2_1, l3_2⟩ := s
  show EvF mtab d k_X12_leastIn 4 [some (.inr (.inr 187)), some (.inl p1), some (.inl l2_1), some (.inl l3_2)] [] (SH L0, D) (some (.inl t0), (SH L0, D))
  unfold b_X12_leastIn_4 at hb
  rcases ite_or hb with ⟨hc, hb⟩ | ⟨hc, hb⟩
  · refine ev_ift hc 2 (pc' := 29) (L' := [some (.inr (.inr 187)), some (.inl p1), some (.inl l2_1), some (.inl l3_2)]) (S' := []) (σ' := (SH L0, D)) (fun _ _ => rfl) ?_
    cases hb
    exact hK0 (some (.inl l3_2))
  · refine ev_iff hc 2 (pc' := 8) (L' := [some (.inr (.inr 187)), some (.inl p1), some (.inl l2_1), some (.inl l3_2)]) (S' := []) (σ' := (SH L0, D)) (fun _ _ => rfl) ?_
    obtain ⟨t3, hv, hb⟩ := bnd hb
    have hJ : EvF mtab d k_X12_leastIn 18 [some (.inr (.inr 187)), some (.inl p1), some (.inl l2_1), some (.inl l3_2)] [.inl t3] (SH L0, D) (some (.inl t0), (SH L0, D)) := by
      obtain ⟨x4, hx, hb⟩ := bnd hb
      refine ev_bind hx 5 (pc' := 25) (L' := fun x4 => [some (.inr (.inr 187)), some (.inl p1), some (.inl t3), some (.inl l3_2)]) (S' := fun x4 => [.inl x4]) (σ' := fun x4 => (SH L0, D)) (fun _ _ => rfl) ?_
      cases hb
      exact ev_go 2 (pc' := 4) (L' := [some (.inr (.inr 187)), some (.inl p1), some (.inl t3), some (.inl x4)]) (S' := []) (σ' := (SH L0, D)) (fun _ _ => rfl) hK0
    clear hb
    rcases ite_or hv with ⟨hc, hv⟩ | ⟨hc, hv⟩
    · refine ev_ift hc 3 (pc' := 13) (L' := [some (.inr (.inr 187)), some (.inl p1), some (.inl l2_1), some (.inl l3_2)]) (S' := []) (σ' := (SH L0, D)) (fun _ _ => rfl) ?_
      have he0 := Option.some.inj hv
      subst he0
      exact ev_go 2 (pc' := 18) (L' := [some (.inr (.inr 187)), some (.inl p1), some (.inl l2_1), some (.inl l3_2)]) (S' := [.inl l3_2]) (σ' := (SH L0, D)) (fun _ _ => rfl) hJ
    · refine ev_iff hc 3 (pc' := 17) (L' := [some (.inr (.inr 187)), some (.inl p1), some (.inl l2_1), some (.inl l3_2)]) (S' := []) (σ' := (SH L0, D)) (fun _ _ => rfl) ?_
      have he0 := Option.some.inj hv
      subst he0
      exact ev_go 1 (pc' := 18) (L' := [some (.inr (.inr 187)), some (.inl p1), some (.inl l2_1), some (.inl l3_2)]) (S' := [.inl l2_1]) (σ' := (SH L0, D)) (fun _ _ => rfl) hJ
set_option maxRecDepth 100000 in
set_option maxHeartbeats 4000000 in
theorem e_X12_placesOf (L0 d : Nat) (hd : 1 ≤ d) {p1 p2 p3 : Int} {D : DT} {t0 : (Int × DT)} (h : m_X12_placesOf p1 p2 p3 D = some t0) : Ret mtab d 194 [.inr (.inr 187), .inl p1, .inl p2, .inl p3] (SH L0, D) (some (.inl t0.1), (SH L0, t0.2)) := by
  obtain ⟨d, rfl⟩ : ∃ e, d = e + 1 := ⟨d - 1, by omega⟩
  refine Ret.of (code := k_X12_placesOf) (ml := 6) rfl ?_
  show EvF mtab d k_X12_placesOf 0 [some (.inr (.inr 187)), some (.inl p1), some (.inl p2), some (.inl p3), none, none] [] (SH L0, D) (some (.inl t0.1), (SH L0, t0.2))
  unfold m_X12_placesOf at h
  obtain ⟨r, hr, h⟩ := bnd h
  have hX : (fun (r : (Int × DT)) => ∀ (o8 : Option (Sum Int Nat)), EvF mtab d k_X12_placesOf 43 [some (.inr (.inr 187)), some (.inl p1), some (.inl p2), some (.inl p3), some (.inl r.1), dv o8] [] (SH L0, r.2) (some (.inl t0.1), (SH L0, t0.2))) r := by
    obtain ⟨l4_7, D9⟩ := r
    intro o8
    show EvF mtab d k_X12_placesOf 43 [some (.inr (.inr 187)), some (.inl p1), some (.inl p2), some (.inl p3), some (.inl l4_7), dv o8] [] (SH L0, D9) (some (.inl t0.1), (SH L0, t0.2))
    cases h
    exact ev_ret 2 (fun _ _ => rfl)
  clear h
  refine ev_go 4 (pc' := 6) (L' := [some (.inr (.inr 187)), some (.inl p1), some (.inl p2), some (.inl p3), some (.inl p2), some (.inl p1)]) (S' := []) (σ' := (SH L0, D)) (fun _ _ => rfl) ?_
  refine loop_ind (P := fun s => EvF mtab d k_X12_placesOf 6 [some (.inr (.inr 187)), some (.inl p1), some (.inl p2), some (.inl p3), some (.inl s.1), some (.inl s.2.1)] [] (SH L0, s.2.2) (some (.inl t0.1), (SH L0, t0.2))) (X := fun r => ∀ (o8 : Option (Sum Int Nat)), EvF mtab d k_X12_placesOf 43 [some (.inr (.inr 187)), some (.inl p1), some (.inl p2), some (.inl p3), some (.inl r.1), dv o8] [] (SH L0, r.2) (some (.inl t0.1), (SH L0, t0.2))) hr hX ?_
  clear hr hX
  intro s t hb hK0
  obtain ⟨l4_1, l5_2, D3⟩ := s
  show EvF mtab d k_X12_placesOf 6 [some (.inr (.inr 187)), some (.inl p1), some (.inl p2), some (.inl p3), some (.inl l4_1), some (.inl l5_2)] [] (SH L0, D3) (some (.inl t0.1), (SH L0, t0.2))
  unfold b_X12_placesOf_6 at hb
  rcases ite_or hb with ⟨hc, hb⟩ | ⟨hc, hb⟩
  · refine ev_ift hc 2 (pc' := 43) (L' := [some (.inr (.inr 187)), some (.inl p1), some (.inl p2), some (.inl p3), some (.inl l4_1), some (.inl l5_2)]) (S' := []) (σ' := (SH L0, D3)) (fun _ _ => rfl) ?_
    cases hb
    exact hK0 (some (.inl l5_2))
  · refine ev_iff hc 2 (pc' := 11) (L' := [some (.inr (.inr 187)), some (.inl p1), some (.inl p2), some (.inl p3), some (.inl l4_1), some (.inl l5_2)]) (S' := []) (σ' := (SH L0, D3)) (fun _ _ => rfl) ?_
    obtain ⟨D4, hx, hb⟩ := bnd hb
    refine ev_bind hx 5 (pc' := 20) (L' := fun D4 => [some (.inr (.inr 187)), some (.inl p1), some (.inl p2), some (.inl p3), some (.inl l4_1), some (.inl l5_2)]) (S' := fun D4 => []) (σ' := fun D4 => (SH L0, D4)) (fun _ _ => rfl) ?_
    obtain ⟨D5, hx, hb⟩ := bnd hb
    refine ev_bind hx 5 (pc' := 28) (L' := fun D5 => [some (.inr (.inr 187)), some (.inl p1), some (.inl p2), some (.inl p3), some (.inl l4_1), some (.inl l5_2)]) (S' := fun D5 => []) (σ' := fun D5 => (SH L0, D5)) (fun _ _ => rfl) ?_
    obtain ⟨x6, hx, hb⟩ := bnd hb
    refine ev_bind hx 5 (pc' := 38) (L' := fun x6 => [some (.inr (.inr 187)), some (.inl p1), some (.inl p2), some (.inl p3), some (.inl (w32 (l4_1 + 1))), some (.inl l5_2)]) (S' := fun x6 => [.inl x6]) (σ' := fun x6 => (SH L0, D5)) (fun _ _ => rfl) ?_
    cases hb
    exact ev_go 2 (pc' := 6) (L' := [some (.inr (.inr 187)), some (.inl p1), some (.inl p2), some (.inl p3), some (.inl (w32 (l4_1 + 1))), some (.inl x6)]) (S' := []) (σ' := (SH L0, D5)) (fun _ _ => rfl) hK0
set_option maxRecDepth 100000 in
set_option maxHeartbeats 4000000 in
theorem e_X12_nextChain (L0 d : Nat) (hd : 3 ≤ d) {p1 p2 p3 : Int} {D : DT} {t0 : Int} (h : m_X12_nextChain p1 p2 p3 D = some t0) : Ret mtab d 195 [.inr (.inr 187), .inl p1, .inl p2, .inl p3] (SH L0, D) (some (.inl t0), (SH L0, D)) := by
  obtain ⟨d, rfl⟩ : ∃ e, d = e + 1 := ⟨d - 1, by omega⟩
  refine Ret.of (code := k_X12_nextChain) (ml := 7) rfl ?_
  show EvF mtab d k_X12_nextChain 0 [some (.inr (.inr 187)), some (.inl p1), some (.inl p2), some (.inl p3), none, none, none] [] (SH L0, D) (some (.inl t0), (SH L0, D))
  unfold m_X12_nextChain at h
  obtain ⟨r, hr, h⟩ := bnd h
  have hX : (fun (r : Int) => ∀ (o16 : Option (Sum Int Nat)) (o17 : Option (Sum Int Nat)), EvF mtab d k_X12_nextChain 116 [some (.inr (.inr 187)), some (.inl p1), some (.inl p2), some (.inl p3), some (.inl r), dv o16, dv o17] [] (SH L0, D) (some (.inl t0), (SH L0, D))) r := by
    obtain ⟨l4_15, hre⟩ : ∃ q, q = r := ⟨r, rfl⟩
    subst hre
    intro o16 o17
    show EvF mtab d k_X12_nextChain 116 [some (.inr (.inr 187)), some (.inl p1), some (.inl p2), some (.inl p3), some (.inl l4_15), dv o16, dv o17] [] (SH L0, D) (some (.inl t0), (SH L0, D))
    cases h
    exact ev_ret 2 (fun _ _ => rfl)
  clear h
  refine ev_go 4 (pc' := 6) (L' := [some (.inr (.inr 187)), some (.inl p1), some (.inl p2), some (.inl p3), some (.inl (-1)), some (.inl 0), none]) (S' := []) (σ' := (SH L0, D)) (fun _ _ => rfl) ?_
  refine loop_ind (P := fun s => ∀ (o3 : Option (Sum Int Nat)), EvF mtab d k_X12_nextChain 6 [some (.inr (.inr 187)), some (.inl p1), some (.inl p2), some (.inl p3), some (.inl s.1), some (.inl s.2), dv o3] [] (SH L0, D) (some (.inl t0), (SH L0, D))) (X := fun r => ∀ (o16 : Option (Sum Int Nat)) (o17 : Option (Sum Int Nat)), EvF mtab d k_X12_nextChain 116 [some (.inr (.inr 187)), some (.inl p1), some (.inl p2), some (.inl p3), some (.inl r), dv o16, dv o17] [] (SH L0, D) (some (.inl t0), (SH L0, D))) hr hX ?_ none
  clear hr hX
  intro s t hb hK0
  obtain ⟨l4_1, l5_2⟩ := s
  intro o3
  show EvF mtab d k_X12_nextChain 6 [some (.inr (.inr 187)), some (.inl p1), some (.inl p2), some (.inl p3), some (.inl l4_1), some (.inl l5_2), dv o3] [] (SH L0, D) (some (.inl t0), (SH L0, D))
  unfold b_X12_nextChain_6 at hb
  obtain ⟨x4, hx, hb⟩ := bnd hb
  refine ev_call (e_X12_blocks L0 d (by omega) hx) 3 (pc' := 12) (L' := [some (.inr (.inr 187)), some (.inl p1), some (.inl p2), some (.inl p3), some (.inl l4_1), some (.inl l5_2), dv o3]) (S' := [.inl l5_2]) (fun _ _ => rfl) ?_
  rcases ite_or hb with ⟨hc, hb⟩ | ⟨hc, hb⟩
  · refine ev_ift hc 1 (pc' := 15) (L' := [some (.inr (.inr 187)), some (.inl p1), some (.inl p2), some (.inl p3), some (.inl l4_1), some (.inl l5_2), dv o3]) (S' := []) (σ' := (SH L0, D)) (fun _ _ => rfl) ?_
    obtain ⟨x5, hx, hb⟩ := bnd hb
    refine ev_call (e_X12_funOf L0 d (by omega) hx) 3 (pc' := 21) (L' := [some (.inr (.inr 187)), some (.inl p1), some (.inl p2), some (.inl p3), some (.inl l4_1), some (.inl l5_2), dv o3]) (S' := []) (fun _ _ => rfl) ?_
    obtain ⟨l4_13, hv, hb⟩ := bnd hb
    have hJ : ∀ (o14 : Option (Sum Int Nat)), EvF mtab d k_X12_nextChain 110 [some (.inr (.inr 187)), some (.inl p1), some (.inl p2), some (.inl p3), some (.inl l4_13), some (.inl l5_2), dv o14] [] (SH L0, D) (some (.inl t0), (SH L0, D)) := by
      intro o14
      cases hb
      exact ev_go 2 (pc' := 6) (L' := [some (.inr (.inr 187)), some (.inl p1), some (.inl p2), some (.inl p3), some (.inl l4_13), some (.inl (w32 (l5_2 + 1))), dv o14]) (S' := []) (σ' := (SH L0, D)) (fun _ _ => rfl) (hK0 o14)
    clear hb
    rcases ite_or hv with ⟨hc, hv⟩ | ⟨hc, hv⟩
    · refine ev_ift hc 2 (pc' := 25) (L' := [some (.inr (.inr 187)), some (.inl p1), some (.inl p2), some (.inl p3), some (.inl l4_1), some (.inl l5_2), dv o3]) (S' := []) (σ' := (SH L0, D)) (fun _ _ => rfl) ?_
      obtain ⟨x6, hx, hv⟩ := bnd hv
      refine ev_bind hx 4 (pc' := 32) (L' := fun x6 => [some (.inr (.inr 187)), some (.inl p1), some (.inl p2), some (.inl p3), some (.inl l4_1), some (.inl l5_2), dv o3]) (S' := fun x6 => [.inl x6]) (σ' := fun x6 => (SH L0, D)) (fun _ _ => rfl) ?_
      rcases ite_or hv with ⟨hc, hv⟩ | ⟨hc, hv⟩
      · refine ev_ift hc 1 (pc' := 110) (L' := [some (.inr (.inr 187)), some (.inl p1), some (.inl p2), some (.inl p3), some (.inl l4_1), some (.inl l5_2), dv o3]) (S' := []) (σ' := (SH L0, D)) (fun _ _ => rfl) ?_
        have he0 := Option.some.inj hv
        subst he0
        exact hJ o3
      · refine ev_iff hc 1 (pc' := 35) (L' := [some (.inr (.inr 187)), some (.inl p1), some (.inl p2), some (.inl p3), some (.inl l4_1), some (.inl l5_2), dv o3]) (S' := []) (σ' := (SH L0, D)) (fun _ _ => rfl) ?_
        obtain ⟨x7, hx, hv⟩ := bnd hv
        refine ev_call (e_X12_isIn__187_198 L0 d (by omega) hx) 7 (pc' := 47) (L' := [some (.inr (.inr 187)), some (.inl p1), some (.inl p2), some (.inl p3), some (.inl l4_1), some (.inl l5_2), dv o3]) (S' := []) (fun _ _ => rfl) ?_
        rcases ite_or hv with ⟨hc, hv⟩ | ⟨hc, hv⟩
        · refine ev_ift hc 1 (pc' := 53) (L' := [some (.inr (.inr 187)), some (.inl p1), some (.inl p2), some (.inl p3), some (.inl l4_1), some (.inl l5_2), dv o3]) (S' := []) (σ' := (SH L0, D)) (fun _ _ => rfl) ?_
          obtain ⟨t10, hv, hv⟩ := bnd hv
          have hJ : EvF mtab d k_X12_nextChain 79 [some (.inr (.inr 187)), some (.inl p1), some (.inl p2), some (.inl p3), some (.inl l4_1), some (.inl l5_2), dv o3] [.inl t10] (SH L0, D) (some (.inl t0), (SH L0, D)) := by
            rcases ite_or hv with ⟨hc, hv⟩ | ⟨hc, hv⟩
            · refine ev_ift hc 3 (pc' := 106) (L' := [some (.inr (.inr 187)), some (.inl p1), some (.inl p2), some (.inl p3), some (.inl l4_1), some (.inl l5_2), some (.inl t10)]) (S' := []) (σ' := (SH L0, D)) (fun _ _ => rfl) ?_
              have he0 := Option.some.inj hv
              subst he0
              exact ev_go 2 (pc' := 110) (L' := [some (.inr (.inr 187)), some (.inl p1), some (.inl p2), some (.inl p3), some (.inl l5_2), some (.inl l5_2), some (.inl t10)]) (S' := []) (σ' := (SH L0, D)) (fun _ _ => rfl) (hJ (some (.inl t10)))
            · refine ev_iff hc 3 (pc' := 86) (L' := [some (.inr (.inr 187)), some (.inl p1), some (.inl p2), some (.inl p3), some (.inl l4_1), some (.inl l5_2), some (.inl t10)]) (S' := []) (σ' := (SH L0, D)) (fun _ _ => rfl) ?_
              rcases ite_or hv with ⟨hc, hv⟩ | ⟨hc, hv⟩
              · refine ev_ift hc 2 (pc' := 91) (L' := [some (.inr (.inr 187)), some (.inl p1), some (.inl p2), some (.inl p3), some (.inl l4_1), some (.inl l5_2), some (.inl t10)]) (S' := []) (σ' := (SH L0, D)) (fun _ _ => rfl) ?_
                obtain ⟨x11, hx, hv⟩ := bnd hv
                refine ev_call (e_X12_leastIn L0 d (by omega) hx) 3 (pc' := 97) (L' := [some (.inr (.inr 187)), some (.inl p1), some (.inl p2), some (.inl p3), some (.inl l4_1), some (.inl l5_2), some (.inl t10)]) (S' := []) (fun _ _ => rfl) ?_
                obtain ⟨x12, hx, hv⟩ := bnd hv
                refine ev_call (e_X12_leastIn L0 d (by omega) hx) 3 (pc' := 103) (L' := [some (.inr (.inr 187)), some (.inl p1), some (.inl p2), some (.inl p3), some (.inl l4_1), some (.inl l5_2), some (.inl t10)]) (S' := [.inl x11]) (fun _ _ => rfl) ?_
                rcases ite_or hv with ⟨hc, hv⟩ | ⟨hc, hv⟩
                · refine ev_ift hc 1 (pc' := 106) (L' := [some (.inr (.inr 187)), some (.inl p1), some (.inl p2), some (.inl p3), some (.inl l4_1), some (.inl l5_2), some (.inl t10)]) (S' := []) (σ' := (SH L0, D)) (fun _ _ => rfl) ?_
                  have he0 := Option.some.inj hv
                  subst he0
                  exact ev_go 2 (pc' := 110) (L' := [some (.inr (.inr 187)), some (.inl p1), some (.inl p2), some (.inl p3), some (.inl l5_2), some (.inl l5_2), some (.inl t10)]) (S' := []) (σ' := (SH L0, D)) (fun _ _ => rfl) (hJ (some (.inl t10)))
                · refine ev_iff hc 1 (pc' := 110) (L' := [some (.inr (.inr 187)), some (.inl p1), some (.inl p2), some (.inl p3), some (.inl l4_1), some (.inl l5_2), some (.inl t10)]) (S' := []) (σ' := (SH L0, D)) (fun _ _ => rfl) ?_
                  have he0 := Option.some.inj hv
                  subst he0
                  exact hJ (some (.inl t10))
              · refine ev_iff hc 2 (pc' := 110) (L' := [some (.inr (.inr 187)), some (.inl p1), some (.inl p2), some (.inl p3), some (.inl l4_1), some (.inl l5_2), some (.inl t10)]) (S' := []) (σ' := (SH L0, D)) (fun _ _ => rfl) ?_
                have he0 := Option.some.inj hv
                subst he0
                exact hJ (some (.inl t10))
          clear hv
          rcases ite_or hv with ⟨hc, hv⟩ | ⟨hc, hv⟩
          · refine ev_ift hc 2 (pc' := 58) (L' := [some (.inr (.inr 187)), some (.inl p1), some (.inl p2), some (.inl p3), some (.inl l4_1), some (.inl l5_2), dv o3]) (S' := []) (σ' := (SH L0, D)) (fun _ _ => rfl) ?_
            have he0 := Option.some.inj hv
            subst he0
            exact ev_go 2 (pc' := 79) (L' := [some (.inr (.inr 187)), some (.inl p1), some (.inl p2), some (.inl p3), some (.inl l4_1), some (.inl l5_2), dv o3]) (S' := [.inl 1]) (σ' := (SH L0, D)) (fun _ _ => rfl) hJ
          · refine ev_iff hc 2 (pc' := 62) (L' := [some (.inr (.inr 187)), some (.inl p1), some (.inl p2), some (.inl p3), some (.inl l4_1), some (.inl l5_2), dv o3]) (S' := []) (σ' := (SH L0, D)) (fun _ _ => rfl) ?_
            obtain ⟨x8, hx, hv⟩ := bnd hv
            refine ev_call (e_X12_between L0 d (by omega) hx) 5 (pc' := 70) (L' := [some (.inr (.inr 187)), some (.inl p1), some (.inl p2), some (.inl p3), some (.inl l4_1), some (.inl l5_2), dv o3]) (S' := []) (fun _ _ => rfl) ?_
            obtain ⟨x9, hx, hv⟩ := bnd hv
            refine ev_call (e_X12_between L0 d (by omega) hx) 5 (pc' := 78) (L' := [some (.inr (.inr 187)), some (.inl p1), some (.inl p2), some (.inl p3), some (.inl l4_1), some (.inl l5_2), dv o3]) (S' := [.inl x8]) (fun _ _ => rfl) ?_
            have he0 := Option.some.inj hv
            subst he0
            exact ev_go 1 (pc' := 79) (L' := [some (.inr (.inr 187)), some (.inl p1), some (.inl p2), some (.inl p3), some (.inl l4_1), some (.inl l5_2), dv o3]) (S' := [.inl (w32 (x8 - x9))]) (σ' := (SH L0, D)) (fun _ _ => rfl) hJ
        · refine ev_iff hc 1 (pc' := 50) (L' := [some (.inr (.inr 187)), some (.inl p1), some (.inl p2), some (.inl p3), some (.inl l4_1), some (.inl l5_2), dv o3]) (S' := []) (σ' := (SH L0, D)) (fun _ _ => rfl) ?_
          have he0 := Option.some.inj hv
          subst he0
          exact ev_go 1 (pc' := 110) (L' := [some (.inr (.inr 187)), some (.inl p1), some (.inl p2), some (.inl p3), some (.inl l4_1), some (.inl l5_2), dv o3]) (S' := []) (σ' := (SH L0, D)) (fun _ _ => rfl) (hJ o3)
    · refine ev_iff hc 2 (pc' := 110) (L' := [some (.inr (.inr 187)), some (.inl p1), some (.inl p2), some (.inl p3), some (.inl l4_1), some (.inl l5_2), dv o3]) (S' := []) (σ' := (SH L0, D)) (fun _ _ => rfl) ?_
      have he0 := Option.some.inj hv
      subst he0
      exact hJ o3
  · refine ev_iff hc 1 (pc' := 116) (L' := [some (.inr (.inr 187)), some (.inl p1), some (.inl p2), some (.inl p3), some (.inl l4_1), some (.inl l5_2), dv o3]) (S' := []) (σ' := (SH L0, D)) (fun _ _ => rfl) ?_
    cases hb
    exact hK0 (some (.inl l5_2)) o3
set_option maxRecDepth 100000 in
set_option maxHeartbeats 4000000 in
theorem e_X12_laysChains (L0 d : Nat) (hd : 5 ≤ d) {p1 p2 : Int} {D : DT} {t0 : (Int × DT)} (h : m_X12_laysChains p1 p2 D = some t0) : Ret mtab d 196 [.inr (.inr 187), .inl p1, .inl p2] (SH L0, D) (some (.inl t0.1), (SH L0, t0.2)) := by
  obtain ⟨d, rfl⟩ : ∃ e, d = e + 1 := ⟨d - 1, by omega⟩
  refine Ret.of (code := k_X12_laysChains) (ml := 7) rfl ?_
  show EvF mtab d k_X12_laysChains 0 [some (.inr (.inr 187)), some (.inl p1), some (.inl p2), none, none, none, none] [] (SH L0, D) (some (.inl t0.1), (SH L0, t0.2))
  unfold m_X12_laysChains at h
  obtain ⟨D1, hx, h⟩ := bnd h
  refine ev_call (e_X12_joinsChains L0 d (by omega) hx) 3 (pc' := 5) (L' := [some (.inr (.inr 187)), some (.inl p1), some (.inl p2), none, none, none, none]) (S' := []) (fun _ _ => rfl) ?_
  obtain ⟨x2, hx, h⟩ := bnd h
  refine ev_call (e_X12_entryOf L0 d (by omega) hx) 4 (pc' := 11) (L' := [some (.inr (.inr 187)), some (.inl p1), some (.inl p2), none, none, none, none]) (S' := [.inr (.inr 187)]) (fun _ _ => rfl) ?_
  obtain ⟨⟨x3, D4⟩, hx, h⟩ := bnd h
  refine ev_call (e_X12_placesOf L0 d (by omega) hx) 3 (pc' := 16) (L' := [some (.inr (.inr 187)), some (.inl p1), some (.inl p2), none, none, none, none]) (S' := []) (fun _ _ => rfl) ?_
  obtain ⟨x5, hx, h⟩ := bnd h
  refine ev_call (e_X12_nextChain L0 d (by omega) hx) 10 (pc' := 29) (L' := [some (.inr (.inr 187)), some (.inl p1), some (.inl p2), some (.inl x3), some (.inl 1), none, none]) (S' := []) (fun _ _ => rfl) ?_
  obtain ⟨r, hr, h⟩ := bnd h
  have hX : (fun (r : (Int × Int × DT)) => ∀ (o15 : Option (Sum Int Nat)), EvF mtab d k_X12_laysChains 63 [some (.inr (.inr 187)), some (.inl p1), some (.inl p2), some (.inl r.1), some (.inl r.2.1), dv o15, none] [] (SH L0, r.2.2) (some (.inl t0.1), (SH L0, t0.2))) r := by
    obtain ⟨l3_13, l4_14, D16⟩ := r
    intro o15
    show EvF mtab d k_X12_laysChains 63 [some (.inr (.inr 187)), some (.inl p1), some (.inl p2), some (.inl l3_13), some (.inl l4_14), dv o15, none] [] (SH L0, D16) (some (.inl t0.1), (SH L0, t0.2))
    obtain ⟨r, hr, h⟩ := bnd h
    have hX : (fun (r : (Int × DT)) => ∀ (o26 : Option (Sum Int Nat)), EvF mtab d k_X12_laysChains 109 [some (.inr (.inr 187)), some (.inl p1), some (.inl p2), some (.inl l3_13), some (.inl l4_14), some (.inl r.1), dv o26] [] (SH L0, r.2) (some (.inl t0.1), (SH L0, t0.2))) r := by
      obtain ⟨l5_25, D27⟩ := r
      intro o26
      show EvF mtab d k_X12_laysChains 109 [some (.inr (.inr 187)), some (.inl p1), some (.inl p2), some (.inl l3_13), some (.inl l4_14), some (.inl l5_25), dv o26] [] (SH L0, D27) (some (.inl t0.1), (SH L0, t0.2))
      obtain ⟨D28, hx, h⟩ := bnd h
      refine ev_bind hx 5 (pc' := 117) (L' := fun D28 => [some (.inr (.inr 187)), some (.inl p1), some (.inl p2), some (.inl l3_13), some (.inl l4_14), some (.inl l5_25), dv o26]) (S' := fun D28 => []) (σ' := fun D28 => (SH L0, D28)) (fun _ _ => rfl) ?_
      obtain ⟨x29, hx, h⟩ := bnd h
      refine ev_call (e_X12_jumpsIn_187_198 L0 d (by omega) hx) 6 (pc' := 128) (L' := [some (.inr (.inr 187)), some (.inl p1), some (.inl p2), some (.inl l3_13), some (.inl l4_14), some (.inl l5_25), dv o26]) (S' := []) (fun _ _ => rfl) ?_
      obtain ⟨x30, hx, h⟩ := bnd h
      refine ev_call (e_X12_jumpsIn_187_199 L0 d (by omega) hx) 6 (pc' := 139) (L' := [some (.inr (.inr 187)), some (.inl p1), some (.inl p2), some (.inl l3_13), some (.inl l4_14), some (.inl l5_25), dv o26]) (S' := [.inl x29]) (fun _ _ => rfl) ?_
      obtain ⟨D41, hv, h⟩ := bnd h
      have hJ : ∀ (o40 : Option (Sum Int Nat)), EvF mtab d k_X12_laysChains 194 [some (.inr (.inr 187)), some (.inl p1), some (.inl p2), some (.inl l3_13), some (.inl l4_14), some (.inl l5_25), dv o40] [] (SH L0, D41) (some (.inl t0.1), (SH L0, t0.2)) := by
        intro o40
        cases h
        exact ev_ret 2 (fun _ _ => rfl)
      clear h
      rcases ite_or hv with ⟨hc, hv⟩ | ⟨hc, hv⟩
      · refine ev_ift hc 1 (pc' := 194) (L' := [some (.inr (.inr 187)), some (.inl p1), some (.inl p2), some (.inl l3_13), some (.inl l4_14), some (.inl l5_25), dv o26]) (S' := []) (σ' := (SH L0, D28)) (fun _ _ => rfl) ?_
        have he0 := Option.some.inj hv
        subst he0
        exact hJ o26
      · refine ev_iff hc 1 (pc' := 142) (L' := [some (.inr (.inr 187)), some (.inl p1), some (.inl p2), some (.inl l3_13), some (.inl l4_14), some (.inl l5_25), dv o26]) (S' := []) (σ' := (SH L0, D28)) (fun _ _ => rfl) ?_
        obtain ⟨D31, hx, hv⟩ := bnd hv
        refine ev_bind hx 5 (pc' := 149) (L' := fun D31 => [some (.inr (.inr 187)), some (.inl p1), some (.inl p2), some (.inl l3_13), some (.inl l4_14), some (.inl l5_25), dv o26]) (S' := fun D31 => []) (σ' := fun D31 => (SH L0, D31)) (fun _ _ => rfl) ?_
        obtain ⟨r, hr, hv⟩ := bnd hv
        have hX : (fun (r : DT) => ∀ (o38 : Option (Sum Int Nat)), EvF mtab d k_X12_laysChains 194 [some (.inr (.inr 187)), some (.inl p1), some (.inl p2), some (.inl l3_13), some (.inl l4_14), some (.inl l5_25), dv o38] [] (SH L0, r) (some (.inl t0.1), (SH L0, t0.2))) r := by
          obtain ⟨D39, hre⟩ : ∃ q, q = r := ⟨r, rfl⟩
          subst hre
          intro o38
          show EvF mtab d k_X12_laysChains 194 [some (.inr (.inr 187)), some (.inl p1), some (.inl p2), some (.inl l3_13), some (.inl l4_14), some (.inl l5_25), dv o38] [] (SH L0, D39) (some (.inl t0.1), (SH L0, t0.2))
          have he0 := Option.some.inj hv
          subst he0
          exact hJ o38
        clear hv
        refine ev_go 2 (pc' := 152) (L' := [some (.inr (.inr 187)), some (.inl p1), some (.inl p2), some (.inl l3_13), some (.inl l4_14), some (.inl l5_25), some (.inl 0)]) (S' := []) (σ' := (SH L0, D31)) (fun _ _ => rfl) ?_
        refine loop_ind (P := fun s => EvF mtab d k_X12_laysChains 152 [some (.inr (.inr 187)), some (.inl p1), some (.inl p2), some (.inl l3_13), some (.inl l4_14), some (.inl l5_25), some (.inl s.1)] [] (SH L0, s.2) (some (.inl t0.1), (SH L0, t0.2))) (X := fun r => ∀ (o38 : Option (Sum Int Nat)), EvF mtab d k_X12_laysChains 194 [some (.inr (.inr 187)), some (.inl p1), some (.inl p2), some (.inl l3_13), some (.inl l4_14), some (.inl l5_25), dv o38] [] (SH L0, r) (some (.inl t0.1), (SH L0, t0.2))) hr hX ?_
        clear hr hX
        intro s t hb hK0
        obtain ⟨l6_32, D33⟩ := s
        show EvF mtab d k_X12_laysChains 152 [some (.inr (.inr 187)), some (.inl p1), some (.inl p2), some (.inl l3_13), some (.inl l4_14), some (.inl l5_25), some (.inl l6_32)] [] (SH L0, D33) (some (.inl t0.1), (SH L0, t0.2))
        unfold b_X12_laysChains_152 at hb
        rcases ite_or hb with ⟨hc, hb⟩ | ⟨hc, hb⟩
        · refine ev_ift hc 3 (pc' := 159) (L' := [some (.inr (.inr 187)), some (.inl p1), some (.inl p2), some (.inl l3_13), some (.inl l4_14), some (.inl l5_25), some (.inl l6_32)]) (S' := []) (σ' := (SH L0, D33)) (fun _ _ => rfl) ?_
          obtain ⟨x34, hx, hb⟩ := bnd hb
          refine ev_bind hx 9 (pc' := 174) (L' := fun x34 => [some (.inr (.inr 187)), some (.inl p1), some (.inl p2), some (.inl l3_13), some (.inl l4_14), some (.inl l5_25), some (.inl l6_32)]) (S' := fun x34 => [.inl x34, .inl (w32 (p2 + l6_32)), .inr (.inr 198)]) (σ' := fun x34 => (SH L0, D33)) (fun _ _ => rfl) ?_
          obtain ⟨D35, hx, hb⟩ := bnd hb
          refine ev_bind hx 1 (pc' := 175) (L' := fun D35 => [some (.inr (.inr 187)), some (.inl p1), some (.inl p2), some (.inl l3_13), some (.inl l4_14), some (.inl l5_25), some (.inl l6_32)]) (S' := fun D35 => []) (σ' := fun D35 => (SH L0, D35)) (fun _ _ => rfl) ?_
          obtain ⟨x36, hx, hb⟩ := bnd hb
          refine ev_bind hx 6 (pc' := 186) (L' := fun x36 => [some (.inr (.inr 187)), some (.inl p1), some (.inl p2), some (.inl l3_13), some (.inl l4_14), some (.inl l5_25), some (.inl l6_32)]) (S' := fun x36 => [.inl x36, .inr (.inr 196)]) (σ' := fun x36 => (SH L0, D35)) (fun _ _ => rfl) ?_
          obtain ⟨D37, hx, hb⟩ := bnd hb
          refine ev_bind hx 2 (pc' := 188) (L' := fun D37 => [some (.inr (.inr 187)), some (.inl p1), some (.inl p2), some (.inl l3_13), some (.inl l4_14), some (.inl l5_25), some (.inl l6_32)]) (S' := fun D37 => []) (σ' := fun D37 => (SH L0, D37)) (fun _ _ => rfl) ?_
          cases hb
          exact ev_go 2 (pc' := 152) (L' := [some (.inr (.inr 187)), some (.inl p1), some (.inl p2), some (.inl l3_13), some (.inl l4_14), some (.inl l5_25), some (.inl (w32 (l6_32 + 1)))]) (S' := []) (σ' := (SH L0, D37)) (fun _ _ => rfl) hK0
        · refine ev_iff hc 3 (pc' := 194) (L' := [some (.inr (.inr 187)), some (.inl p1), some (.inl p2), some (.inl l3_13), some (.inl l4_14), some (.inl l5_25), some (.inl l6_32)]) (S' := []) (σ' := (SH L0, D33)) (fun _ _ => rfl) ?_
          cases hb
          exact hK0 (some (.inl l6_32))
    clear h
    refine ev_go 4 (pc' := 69) (L' := [some (.inr (.inr 187)), some (.inl p1), some (.inl p2), some (.inl l3_13), some (.inl l4_14), some (.inl 0), some (.inl 0)]) (S' := []) (σ' := (SH L0, D16)) (fun _ _ => rfl) ?_
    refine loop_ind (P := fun s => EvF mtab d k_X12_laysChains 69 [some (.inr (.inr 187)), some (.inl p1), some (.inl p2), some (.inl l3_13), some (.inl l4_14), some (.inl s.1), some (.inl s.2.1)] [] (SH L0, s.2.2) (some (.inl t0.1), (SH L0, t0.2))) (X := fun r => ∀ (o26 : Option (Sum Int Nat)), EvF mtab d k_X12_laysChains 109 [some (.inr (.inr 187)), some (.inl p1), some (.inl p2), some (.inl l3_13), some (.inl l4_14), some (.inl r.1), dv o26] [] (SH L0, r.2) (some (.inl t0.1), (SH L0, t0.2))) hr hX ?_
    clear hr hX
    intro s t hb hK0
    obtain ⟨l5_17, l6_18, D19⟩ := s
    show EvF mtab d k_X12_laysChains 69 [some (.inr (.inr 187)), some (.inl p1), some (.inl p2), some (.inl l3_13), some (.inl l4_14), some (.inl l5_17), some (.inl l6_18)] [] (SH L0, D19) (some (.inl t0.1), (SH L0, t0.2))
    unfold b_X12_laysChains_69 at hb
    obtain ⟨x20, hx, hb⟩ := bnd hb
    refine ev_call (e_X12_blocks L0 d (by omega) hx) 3 (pc' := 75) (L' := [some (.inr (.inr 187)), some (.inl p1), some (.inl p2), some (.inl l3_13), some (.inl l4_14), some (.inl l5_17), some (.inl l6_18)]) (S' := [.inl l6_18]) (fun _ _ => rfl) ?_
    rcases ite_or hb with ⟨hc, hb⟩ | ⟨hc, hb⟩
    · refine ev_ift hc 1 (pc' := 78) (L' := [some (.inr (.inr 187)), some (.inl p1), some (.inl p2), some (.inl l3_13), some (.inl l4_14), some (.inl l5_17), some (.inl l6_18)]) (S' := []) (σ' := (SH L0, D19)) (fun _ _ => rfl) ?_
      obtain ⟨x21, hx, hb⟩ := bnd hb
      refine ev_call (e_X12_funOf L0 d (by omega) hx) 3 (pc' := 84) (L' := [some (.inr (.inr 187)), some (.inl p1), some (.inl p2), some (.inl l3_13), some (.inl l4_14), some (.inl l5_17), some (.inl l6_18)]) (S' := []) (fun _ _ => rfl) ?_
      obtain ⟨⟨l5_23, D24⟩, hv, hb⟩ := bnd hb
      have hJ : EvF mtab d k_X12_laysChains 103 [some (.inr (.inr 187)), some (.inl p1), some (.inl p2), some (.inl l3_13), some (.inl l4_14), some (.inl l5_23), some (.inl l6_18)] [] (SH L0, D24) (some (.inl t0.1), (SH L0, t0.2)) := by
        cases hb
        exact ev_go 2 (pc' := 69) (L' := [some (.inr (.inr 187)), some (.inl p1), some (.inl p2), some (.inl l3_13), some (.inl l4_14), some (.inl l5_23), some (.inl (w32 (l6_18 + 1)))]) (S' := []) (σ' := (SH L0, D24)) (fun _ _ => rfl) hK0
      clear hb
      rcases ite_or hv with ⟨hc, hv⟩ | ⟨hc, hv⟩
      · refine ev_ift hc 2 (pc' := 91) (L' := [some (.inr (.inr 187)), some (.inl p1), some (.inl p2), some (.inl l3_13), some (.inl l4_14), some (.inl l5_17), some (.inl l6_18)]) (S' := []) (σ' := (SH L0, D19)) (fun _ _ => rfl) ?_
        obtain ⟨D22, hx, hv⟩ := bnd hv
        refine ev_bind hx 5 (pc' := 100) (L' := fun D22 => [some (.inr (.inr 187)), some (.inl p1), some (.inl p2), some (.inl l3_13), some (.inl l4_14), some (.inl l5_17), some (.inl l6_18)]) (S' := fun D22 => []) (σ' := fun D22 => (SH L0, D22)) (fun _ _ => rfl) ?_
        have he0 := Option.some.inj hv
        obtain ⟨ha0, he1⟩ := Prod.mk.inj he0
        clear he0
        subst ha0
        subst he1
        exact ev_go 1 (pc' := 103) (L' := [some (.inr (.inr 187)), some (.inl p1), some (.inl p2), some (.inl l3_13), some (.inl l4_14), some (.inl (w32 (l5_17 + 1))), some (.inl l6_18)]) (S' := []) (σ' := (SH L0, D22)) (fun _ _ => rfl) hJ
      · refine ev_iff hc 2 (pc' := 88) (L' := [some (.inr (.inr 187)), some (.inl p1), some (.inl p2), some (.inl l3_13), some (.inl l4_14), some (.inl l5_17), some (.inl l6_18)]) (S' := []) (σ' := (SH L0, D19)) (fun _ _ => rfl) ?_
        have he0 := Option.some.inj hv
        obtain ⟨ha0, he1⟩ := Prod.mk.inj he0
        clear he0
        subst ha0
        subst he1
        exact ev_go 1 (pc' := 103) (L' := [some (.inr (.inr 187)), some (.inl p1), some (.inl p2), some (.inl l3_13), some (.inl l4_14), some (.inl l5_17), some (.inl l6_18)]) (S' := []) (σ' := (SH L0, D19)) (fun _ _ => rfl) hJ
    · refine ev_iff hc 1 (pc' := 109) (L' := [some (.inr (.inr 187)), some (.inl p1), some (.inl p2), some (.inl l3_13), some (.inl l4_14), some (.inl l5_17), some (.inl l6_18)]) (S' := []) (σ' := (SH L0, D19)) (fun _ _ => rfl) ?_
      cases hb
      exact hK0 (some (.inl l6_18))
  clear h
  refine ev_go 1 (pc' := 31) (L' := [some (.inr (.inr 187)), some (.inl p1), some (.inl p2), some (.inl x3), some (.inl 1), some (.inl x5), none]) (S' := []) (σ' := (SH L0, D4)) (fun _ _ => rfl) ?_
  refine loop_ind (P := fun s => EvF mtab d k_X12_laysChains 31 [some (.inr (.inr 187)), some (.inl p1), some (.inl p2), some (.inl s.1), some (.inl s.2.1), some (.inl s.2.2.1), none] [] (SH L0, s.2.2.2) (some (.inl t0.1), (SH L0, t0.2))) (X := fun r => ∀ (o15 : Option (Sum Int Nat)), EvF mtab d k_X12_laysChains 63 [some (.inr (.inr 187)), some (.inl p1), some (.inl p2), some (.inl r.1), some (.inl r.2.1), dv o15, none] [] (SH L0, r.2.2) (some (.inl t0.1), (SH L0, t0.2))) hr hX ?_
  clear hr hX
  intro s t hb hK0
  obtain ⟨l3_6, l4_7, l5_8, D9⟩ := s
  show EvF mtab d k_X12_laysChains 31 [some (.inr (.inr 187)), some (.inl p1), some (.inl p2), some (.inl l3_6), some (.inl l4_7), some (.inl l5_8), none] [] (SH L0, D9) (some (.inl t0.1), (SH L0, t0.2))
  unfold b_X12_laysChains_31 at hb
  rcases ite_or hb with ⟨hc, hb⟩ | ⟨hc, hb⟩
  · refine ev_ift hc 2 (pc' := 63) (L' := [some (.inr (.inr 187)), some (.inl p1), some (.inl p2), some (.inl l3_6), some (.inl l4_7), some (.inl l5_8), none]) (S' := []) (σ' := (SH L0, D9)) (fun _ _ => rfl) ?_
    cases hb
    exact hK0 (some (.inl l5_8))
  · refine ev_iff hc 2 (pc' := 36) (L' := [some (.inr (.inr 187)), some (.inl p1), some (.inl p2), some (.inl l3_6), some (.inl l4_7), some (.inl l5_8), none]) (S' := []) (σ' := (SH L0, D9)) (fun _ _ => rfl) ?_
    obtain ⟨⟨x10, D11⟩, hx, hb⟩ := bnd hb
    refine ev_call (e_X12_placesOf L0 d (by omega) hx) 5 (pc' := 45) (L' := [some (.inr (.inr 187)), some (.inl p1), some (.inl p2), some (.inl l3_6), some (.inl l4_7), some (.inl l5_8), none]) (S' := []) (fun _ _ => rfl) ?_
    obtain ⟨x12, hx, hb⟩ := bnd hb
    refine ev_call (e_X12_nextChain L0 d (by omega) hx) 9 (pc' := 58) (L' := [some (.inr (.inr 187)), some (.inl p1), some (.inl p2), some (.inl x10), some (.inl (w32 (l4_7 + 1))), some (.inl l5_8), none]) (S' := []) (fun _ _ => rfl) ?_
    cases hb
    exact ev_go 2 (pc' := 31) (L' := [some (.inr (.inr 187)), some (.inl p1), some (.inl p2), some (.inl x10), some (.inl (w32 (l4_7 + 1))), some (.inl x12), none]) (S' := []) (σ' := (SH L0, D11)) (fun _ _ => rfl) hK0
set_option maxRecDepth 100000 in
set_option maxHeartbeats 4000000 in
theorem e_X12_laysCold (L0 d : Nat) (hd : 4 ≤ d) {D : DT} {t0 : DT} (h : m_X12_laysCold  D = some t0) : Ret mtab d 197 [.inr (.inr 187)] (SH L0, D) (none, (SH L0, t0)) := by
  obtain ⟨d, rfl⟩ : ∃ e, d = e + 1 := ⟨d - 1, by omega⟩
  refine Ret.of (code := k_X12_laysCold) (ml := 3) rfl ?_
  show EvF mtab d k_X12_laysCold 0 [some (.inr (.inr 187)), none, none] [] (SH L0, D) (none, (SH L0, t0))
  unfold m_X12_laysCold at h
  obtain ⟨r, hr, h⟩ := bnd h
  have hX : (fun (r : DT) => ∀ (o6 : Option (Sum Int Nat)), EvF mtab d k_X12_laysCold 23 [some (.inr (.inr 187)), dv o6, none] [] (SH L0, r) (none, (SH L0, t0))) r := by
    obtain ⟨D7, hre⟩ : ∃ q, q = r := ⟨r, rfl⟩
    subst hre
    intro o6
    show EvF mtab d k_X12_laysCold 23 [some (.inr (.inr 187)), dv o6, none] [] (SH L0, D7) (none, (SH L0, t0))
    obtain ⟨r, hr, h⟩ := bnd h
    have hX : (fun (r : DT) => ∀ (o41 : Option (Sum Int Nat)) (o42 : Option (Sum Int Nat)), EvF mtab d k_X12_laysCold 116 [some (.inr (.inr 187)), dv o41, dv o42] [] (SH L0, r) (none, (SH L0, t0))) r := by
      obtain ⟨D43, hre⟩ : ∃ q, q = r := ⟨r, rfl⟩
      subst hre
      intro o41 o42
      show EvF mtab d k_X12_laysCold 116 [some (.inr (.inr 187)), dv o41, dv o42] [] (SH L0, D43) (none, (SH L0, t0))
      cases h
      exact ev_ret 1 (fun _ _ => rfl)
    clear h
    refine ev_go 2 (pc' := 25) (L' := [some (.inr (.inr 187)), some (.inl 0), none]) (S' := []) (σ' := (SH L0, D7)) (fun _ _ => rfl) ?_
    refine loop_ind (P := fun s => ∀ (o9 : Option (Sum Int Nat)), EvF mtab d k_X12_laysCold 25 [some (.inr (.inr 187)), some (.inl s.1), dv o9] [] (SH L0, s.2) (none, (SH L0, t0))) (X := fun r => ∀ (o41 : Option (Sum Int Nat)) (o42 : Option (Sum Int Nat)), EvF mtab d k_X12_laysCold 116 [some (.inr (.inr 187)), dv o41, dv o42] [] (SH L0, r) (none, (SH L0, t0))) hr hX ?_ none
    clear hr hX
    intro s t hb hK0
    obtain ⟨l1_8, D10⟩ := s
    intro o9
    show EvF mtab d k_X12_laysCold 25 [some (.inr (.inr 187)), some (.inl l1_8), dv o9] [] (SH L0, D10) (none, (SH L0, t0))
    unfold b_X12_laysCold_25 at hb
    obtain ⟨x11, hx, hb⟩ := bnd hb
    refine ev_call (e_X12_blocks L0 d (by omega) hx) 3 (pc' := 30) (L' := [some (.inr (.inr 187)), some (.inl l1_8), dv o9]) (S' := [.inl l1_8]) (fun _ _ => rfl) ?_
    rcases ite_or hb with ⟨hc, hb⟩ | ⟨hc, hb⟩
    · refine ev_ift hc 1 (pc' := 33) (L' := [some (.inr (.inr 187)), some (.inl l1_8), dv o9]) (S' := []) (σ' := (SH L0, D10)) (fun _ _ => rfl) ?_
      obtain ⟨x12, hx, hb⟩ := bnd hb
      refine ev_bind hx 4 (pc' := 39) (L' := fun x12 => [some (.inr (.inr 187)), some (.inl l1_8), dv o9]) (S' := fun x12 => [.inl x12]) (σ' := fun x12 => (SH L0, D10)) (fun _ _ => rfl) ?_
      obtain ⟨x13, hx, hb⟩ := bnd hb
      refine ev_bind hx 4 (pc' := 45) (L' := fun x13 => [some (.inr (.inr 187)), some (.inl l1_8), dv o9]) (S' := fun x13 => [.inl x13, .inl x12]) (σ' := fun x13 => (SH L0, D10)) (fun _ _ => rfl) ?_
      obtain ⟨D40, hv, hb⟩ := bnd hb
      have hJ : ∀ (o39 : Option (Sum Int Nat)), EvF mtab d k_X12_laysCold 110 [some (.inr (.inr 187)), some (.inl l1_8), dv o39] [] (SH L0, D40) (none, (SH L0, t0)) := by
        intro o39
        cases hb
        exact ev_go 2 (pc' := 25) (L' := [some (.inr (.inr 187)), some (.inl (w32 (l1_8 + 1))), dv o39]) (S' := []) (σ' := (SH L0, D40)) (fun _ _ => rfl) (hK0 o39)
      clear hb
      rcases ite_or hv with ⟨hc, hv⟩ | ⟨hc, hv⟩
      · refine ev_ift hc 1 (pc' := 59) (L' := [some (.inr (.inr 187)), some (.inl l1_8), dv o9]) (S' := []) (σ' := (SH L0, D10)) (fun _ _ => rfl) ?_
        obtain ⟨r, hr, hv⟩ := bnd hv
        have hX : (fun (r : DT) => ∀ (o24 : Option (Sum Int Nat)), EvF mtab d k_X12_laysCold 110 [some (.inr (.inr 187)), some (.inl l1_8), dv o24] [] (SH L0, r) (none, (SH L0, t0))) r := by
          obtain ⟨D25, hre⟩ : ∃ q, q = r := ⟨r, rfl⟩
          subst hre
          intro o24
          show EvF mtab d k_X12_laysCold 110 [some (.inr (.inr 187)), some (.inl l1_8), dv o24] [] (SH L0, D25) (none, (SH L0, t0))
          have he0 := Option.some.inj hv
          subst he0
          exact hJ o24
        clear hv
        refine ev_go 2 (pc' := 61) (L' := [some (.inr (.inr 187)), some (.inl l1_8), some (.inl 0)]) (S' := []) (σ' := (SH L0, D10)) (fun _ _ => rfl) ?_
        refine loop_ind (P := fun s => EvF mtab d k_X12_laysCold 61 [some (.inr (.inr 187)), some (.inl l1_8), some (.inl s.1)] [] (SH L0, s.2) (none, (SH L0, t0))) (X := fun r => ∀ (o24 : Option (Sum Int Nat)), EvF mtab d k_X12_laysCold 110 [some (.inr (.inr 187)), some (.inl l1_8), dv o24] [] (SH L0, r) (none, (SH L0, t0))) hr hX ?_
        clear hr hX
        intro s t hb hK0
        obtain ⟨l2_14, D15⟩ := s
        show EvF mtab d k_X12_laysCold 61 [some (.inr (.inr 187)), some (.inl l1_8), some (.inl l2_14)] [] (SH L0, D15) (none, (SH L0, t0))
        unfold b_X12_laysCold_61 at hb
        obtain ⟨x16, hx, hb⟩ := bnd hb
        refine ev_call (e_X12_blocks L0 d (by omega) hx) 3 (pc' := 66) (L' := [some (.inr (.inr 187)), some (.inl l1_8), some (.inl l2_14)]) (S' := [.inl l2_14]) (fun _ _ => rfl) ?_
        rcases ite_or hb with ⟨hc, hb⟩ | ⟨hc, hb⟩
        · refine ev_ift hc 1 (pc' := 69) (L' := [some (.inr (.inr 187)), some (.inl l1_8), some (.inl l2_14)]) (S' := []) (σ' := (SH L0, D15)) (fun _ _ => rfl) ?_
          obtain ⟨x17, hx, hb⟩ := bnd hb
          refine ev_call (e_X12_funOf L0 d (by omega) hx) 3 (pc' := 74) (L' := [some (.inr (.inr 187)), some (.inl l1_8), some (.inl l2_14)]) (S' := []) (fun _ _ => rfl) ?_
          obtain ⟨x18, hx, hb⟩ := bnd hb
          refine ev_call (e_X12_funOf L0 d (by omega) hx) 3 (pc' := 79) (L' := [some (.inr (.inr 187)), some (.inl l1_8), some (.inl l2_14)]) (S' := [.inl x17]) (fun _ _ => rfl) ?_
          obtain ⟨D23, hv, hb⟩ := bnd hb
          have hJ : EvF mtab d k_X12_laysCold 104 [some (.inr (.inr 187)), some (.inl l1_8), some (.inl l2_14)] [] (SH L0, D23) (none, (SH L0, t0)) := by
            cases hb
            exact ev_go 2 (pc' := 61) (L' := [some (.inr (.inr 187)), some (.inl l1_8), some (.inl (w32 (l2_14 + 1)))]) (S' := []) (σ' := (SH L0, D23)) (fun _ _ => rfl) hK0
          clear hb
          rcases ite_or hv with ⟨hc, hv⟩ | ⟨hc, hv⟩
          · refine ev_ift hc 1 (pc' := 82) (L' := [some (.inr (.inr 187)), some (.inl l1_8), some (.inl l2_14)]) (S' := []) (σ' := (SH L0, D15)) (fun _ _ => rfl) ?_
            obtain ⟨x19, hx, hv⟩ := bnd hv
            refine ev_bind hx 4 (pc' := 88) (L' := fun x19 => [some (.inr (.inr 187)), some (.inl l1_8), some (.inl l2_14)]) (S' := fun x19 => [.inl x19]) (σ' := fun x19 => (SH L0, D15)) (fun _ _ => rfl) ?_
            obtain ⟨x20, hx, hv⟩ := bnd hv
            refine ev_bind hx 4 (pc' := 94) (L' := fun x20 => [some (.inr (.inr 187)), some (.inl l1_8), some (.inl l2_14)]) (S' := fun x20 => [.inl x20, .inl x19]) (σ' := fun x20 => (SH L0, D15)) (fun _ _ => rfl) ?_
            rcases ite_or hv with ⟨hc, hv⟩ | ⟨hc, hv⟩
            · refine ev_ift hc 1 (pc' := 97) (L' := [some (.inr (.inr 187)), some (.inl l1_8), some (.inl l2_14)]) (S' := []) (σ' := (SH L0, D15)) (fun _ _ => rfl) ?_
              obtain ⟨x21, hx, hv⟩ := bnd hv
              obtain ⟨D22, hy, hv⟩ := bnd hv
              refine ev_bind2 (Y := fun x21 => awr D15 202 40 l2_14 x21) hx hy 5 (pc' := 104) (L' := fun x21 D22 => [some (.inr (.inr 187)), some (.inl l1_8), some (.inl l2_14)]) (S' := fun x21 D22 => []) (σ' := fun x21 D22 => (SH L0, D22)) (fun _ _ => rfl) ?_
              have he0 := Option.some.inj hv
              subst he0
              exact hJ
            · refine ev_iff hc 1 (pc' := 104) (L' := [some (.inr (.inr 187)), some (.inl l1_8), some (.inl l2_14)]) (S' := []) (σ' := (SH L0, D15)) (fun _ _ => rfl) ?_
              have he0 := Option.some.inj hv
              subst he0
              exact hJ
          · refine ev_iff hc 1 (pc' := 104) (L' := [some (.inr (.inr 187)), some (.inl l1_8), some (.inl l2_14)]) (S' := []) (σ' := (SH L0, D15)) (fun _ _ => rfl) ?_
            have he0 := Option.some.inj hv
            subst he0
            exact hJ
        · refine ev_iff hc 1 (pc' := 110) (L' := [some (.inr (.inr 187)), some (.inl l1_8), some (.inl l2_14)]) (S' := []) (σ' := (SH L0, D15)) (fun _ _ => rfl) ?_
          cases hb
          exact hK0 (some (.inl l2_14))
      · refine ev_iff hc 1 (pc' := 48) (L' := [some (.inr (.inr 187)), some (.inl l1_8), dv o9]) (S' := []) (σ' := (SH L0, D10)) (fun _ _ => rfl) ?_
        obtain ⟨x26, hx, hv⟩ := bnd hv
        refine ev_call (e_X12_isEntry L0 d (by omega) hx) 3 (pc' := 53) (L' := [some (.inr (.inr 187)), some (.inl l1_8), dv o9]) (S' := []) (fun _ _ => rfl) ?_
        rcases ite_or hv with ⟨hc, hv⟩ | ⟨hc, hv⟩
        · refine ev_ift hc 1 (pc' := 56) (L' := [some (.inr (.inr 187)), some (.inl l1_8), dv o9]) (S' := []) (σ' := (SH L0, D10)) (fun _ _ => rfl) ?_
          have he0 := Option.some.inj hv
          subst he0
          exact ev_go 1 (pc' := 110) (L' := [some (.inr (.inr 187)), some (.inl l1_8), dv o9]) (S' := []) (σ' := (SH L0, D10)) (fun _ _ => rfl) (hJ o9)
        · refine ev_iff hc 1 (pc' := 59) (L' := [some (.inr (.inr 187)), some (.inl l1_8), dv o9]) (S' := []) (σ' := (SH L0, D10)) (fun _ _ => rfl) ?_
          obtain ⟨r, hr, hv⟩ := bnd hv
          have hX : (fun (r : DT) => ∀ (o37 : Option (Sum Int Nat)), EvF mtab d k_X12_laysCold 110 [some (.inr (.inr 187)), some (.inl l1_8), dv o37] [] (SH L0, r) (none, (SH L0, t0))) r := by
            obtain ⟨D38, hre⟩ : ∃ q, q = r := ⟨r, rfl⟩
            subst hre
            intro o37
            show EvF mtab d k_X12_laysCold 110 [some (.inr (.inr 187)), some (.inl l1_8), dv o37] [] (SH L0, D38) (none, (SH L0, t0))
            have he0 := Option.some.inj hv
            subst he0
            exact hJ o37
          clear hv
          refine ev_go 2 (pc' := 61) (L' := [some (.inr (.inr 187)), some (.inl l1_8), some (.inl 0)]) (S' := []) (σ' := (SH L0, D10)) (fun _ _ => rfl) ?_
          refine loop_ind (P := fun s => EvF mtab d k_X12_laysCold 61 [some (.inr (.inr 187)), some (.inl l1_8), some (.inl s.1)] [] (SH L0, s.2) (none, (SH L0, t0))) (X := fun r => ∀ (o37 : Option (Sum Int Nat)), EvF mtab d k_X12_laysCold 110 [some (.inr (.inr 187)), some (.inl l1_8), dv o37] [] (SH L0, r) (none, (SH L0, t0))) hr hX ?_
          clear hr hX
          intro s t hb hK0
          obtain ⟨l2_27, D28⟩ := s
          show EvF mtab d k_X12_laysCold 61 [some (.inr (.inr 187)), some (.inl l1_8), some (.inl l2_27)] [] (SH L0, D28) (none, (SH L0, t0))
          unfold b_X12_laysCold_61_2 at hb
          obtain ⟨x29, hx, hb⟩ := bnd hb
          refine ev_call (e_X12_blocks L0 d (by omega) hx) 3 (pc' := 66) (L' := [some (.inr (.inr 187)), some (.inl l1_8), some (.inl l2_27)]) (S' := [.inl l2_27]) (fun _ _ => rfl) ?_
          rcases ite_or hb with ⟨hc, hb⟩ | ⟨hc, hb⟩
          · refine ev_ift hc 1 (pc' := 69) (L' := [some (.inr (.inr 187)), some (.inl l1_8), some (.inl l2_27)]) (S' := []) (σ' := (SH L0, D28)) (fun _ _ => rfl) ?_
            obtain ⟨x30, hx, hb⟩ := bnd hb
            refine ev_call (e_X12_funOf L0 d (by omega) hx) 3 (pc' := 74) (L' := [some (.inr (.inr 187)), some (.inl l1_8), some (.inl l2_27)]) (S' := []) (fun _ _ => rfl) ?_
            obtain ⟨x31, hx, hb⟩ := bnd hb
            refine ev_call (e_X12_funOf L0 d (by omega) hx) 3 (pc' := 79) (L' := [some (.inr (.inr 187)), some (.inl l1_8), some (.inl l2_27)]) (S' := [.inl x30]) (fun _ _ => rfl) ?_
            obtain ⟨D36, hv, hb⟩ := bnd hb
            have hJ : EvF mtab d k_X12_laysCold 104 [some (.inr (.inr 187)), some (.inl l1_8), some (.inl l2_27)] [] (SH L0, D36) (none, (SH L0, t0)) := by
              cases hb
              exact ev_go 2 (pc' := 61) (L' := [some (.inr (.inr 187)), some (.inl l1_8), some (.inl (w32 (l2_27 + 1)))]) (S' := []) (σ' := (SH L0, D36)) (fun _ _ => rfl) hK0
            clear hb
            rcases ite_or hv with ⟨hc, hv⟩ | ⟨hc, hv⟩
            · refine ev_ift hc 1 (pc' := 82) (L' := [some (.inr (.inr 187)), some (.inl l1_8), some (.inl l2_27)]) (S' := []) (σ' := (SH L0, D28)) (fun _ _ => rfl) ?_
              obtain ⟨x32, hx, hv⟩ := bnd hv
              refine ev_bind hx 4 (pc' := 88) (L' := fun x32 => [some (.inr (.inr 187)), some (.inl l1_8), some (.inl l2_27)]) (S' := fun x32 => [.inl x32]) (σ' := fun x32 => (SH L0, D28)) (fun _ _ => rfl) ?_
              obtain ⟨x33, hx, hv⟩ := bnd hv
              refine ev_bind hx 4 (pc' := 94) (L' := fun x33 => [some (.inr (.inr 187)), some (.inl l1_8), some (.inl l2_27)]) (S' := fun x33 => [.inl x33, .inl x32]) (σ' := fun x33 => (SH L0, D28)) (fun _ _ => rfl) ?_
              rcases ite_or hv with ⟨hc, hv⟩ | ⟨hc, hv⟩
              · refine ev_ift hc 1 (pc' := 97) (L' := [some (.inr (.inr 187)), some (.inl l1_8), some (.inl l2_27)]) (S' := []) (σ' := (SH L0, D28)) (fun _ _ => rfl) ?_
                obtain ⟨x34, hx, hv⟩ := bnd hv
                obtain ⟨D35, hy, hv⟩ := bnd hv
                refine ev_bind2 (Y := fun x34 => awr D28 202 40 l2_27 x34) hx hy 5 (pc' := 104) (L' := fun x34 D35 => [some (.inr (.inr 187)), some (.inl l1_8), some (.inl l2_27)]) (S' := fun x34 D35 => []) (σ' := fun x34 D35 => (SH L0, D35)) (fun _ _ => rfl) ?_
                have he0 := Option.some.inj hv
                subst he0
                exact hJ
              · refine ev_iff hc 1 (pc' := 104) (L' := [some (.inr (.inr 187)), some (.inl l1_8), some (.inl l2_27)]) (S' := []) (σ' := (SH L0, D28)) (fun _ _ => rfl) ?_
                have he0 := Option.some.inj hv
                subst he0
                exact hJ
            · refine ev_iff hc 1 (pc' := 104) (L' := [some (.inr (.inr 187)), some (.inl l1_8), some (.inl l2_27)]) (S' := []) (σ' := (SH L0, D28)) (fun _ _ => rfl) ?_
              have he0 := Option.some.inj hv
              subst he0
              exact hJ
          · refine ev_iff hc 1 (pc' := 110) (L' := [some (.inr (.inr 187)), some (.inl l1_8), some (.inl l2_27)]) (S' := []) (σ' := (SH L0, D28)) (fun _ _ => rfl) ?_
            cases hb
            exact hK0 (some (.inl l2_27))
    · refine ev_iff hc 1 (pc' := 116) (L' := [some (.inr (.inr 187)), some (.inl l1_8), dv o9]) (S' := []) (σ' := (SH L0, D10)) (fun _ _ => rfl) ?_
      cases hb
      exact hK0 (some (.inl l1_8)) o9
  clear h
  refine ev_go 2 (pc' := 2) (L' := [some (.inr (.inr 187)), some (.inl 0), none]) (S' := []) (σ' := (SH L0, D)) (fun _ _ => rfl) ?_
  refine loop_ind (P := fun s => EvF mtab d k_X12_laysCold 2 [some (.inr (.inr 187)), some (.inl s.1), none] [] (SH L0, s.2) (none, (SH L0, t0))) (X := fun r => ∀ (o6 : Option (Sum Int Nat)), EvF mtab d k_X12_laysCold 23 [some (.inr (.inr 187)), dv o6, none] [] (SH L0, r) (none, (SH L0, t0))) hr hX ?_
  clear hr hX
  intro s t hb hK0
  obtain ⟨l1_1, D2⟩ := s
  show EvF mtab d k_X12_laysCold 2 [some (.inr (.inr 187)), some (.inl l1_1), none] [] (SH L0, D2) (none, (SH L0, t0))
  unfold b_X12_laysCold_2 at hb
  obtain ⟨x3, hx, hb⟩ := bnd hb
  refine ev_call (e_X12_blocks L0 d (by omega) hx) 3 (pc' := 7) (L' := [some (.inr (.inr 187)), some (.inl l1_1), none]) (S' := [.inl l1_1]) (fun _ _ => rfl) ?_
  rcases ite_or hb with ⟨hc, hb⟩ | ⟨hc, hb⟩
  · refine ev_ift hc 1 (pc' := 10) (L' := [some (.inr (.inr 187)), some (.inl l1_1), none]) (S' := []) (σ' := (SH L0, D2)) (fun _ _ => rfl) ?_
    obtain ⟨x4, hx, hb⟩ := bnd hb
    obtain ⟨D5, hy, hb⟩ := bnd hb
    refine ev_bind2 (Y := fun x4 => awr D2 202 40 l1_1 x4) hx hy 5 (pc' := 17) (L' := fun x4 D5 => [some (.inr (.inr 187)), some (.inl l1_1), none]) (S' := fun x4 D5 => []) (σ' := fun x4 D5 => (SH L0, D5)) (fun _ _ => rfl) ?_
    cases hb
    exact ev_go 2 (pc' := 2) (L' := [some (.inr (.inr 187)), some (.inl (w32 (l1_1 + 1))), none]) (S' := []) (σ' := (SH L0, D5)) (fun _ _ => rfl) hK0
  · refine ev_iff hc 1 (pc' := 23) (L' := [some (.inr (.inr 187)), some (.inl l1_1), none]) (S' := []) (σ' := (SH L0, D2)) (fun _ _ => rfl) ?_
    cases hb
    exact hK0 (some (.inl l1_1))
set_option maxRecDepth 100000 in
set_option maxHeartbeats 4000000 in
theorem e_X12_weightOf (L0 d : Nat) (hd : 2 ≤ d) {p1 p2 : Int} {D : DT} {t0 : Int} (h : m_X12_weightOf p1 p2 D = some t0) : Ret mtab d 198 [.inr (.inr 187), .inl p1, .inl p2] (SH L0, D) (some (.inl t0), (SH L0, D)) := by
  obtain ⟨d, rfl⟩ : ∃ e, d = e + 1 := ⟨d - 1, by omega⟩
  refine Ret.of (code := k_X12_weightOf) (ml := 6) rfl ?_
  show EvF mtab d k_X12_weightOf 0 [some (.inr (.inr 187)), some (.inl p1), some (.inl p2), none, none, none] [] (SH L0, D) (some (.inl t0), (SH L0, D))
  unfold m_X12_weightOf at h
  obtain ⟨r, hr, h⟩ := bnd h
  have hX : (fun (r : Int) => ∀ (o16 : Option (Sum Int Nat)) (o17 : Option (Sum Int Nat)), EvF mtab d k_X12_weightOf 91 [some (.inr (.inr 187)), some (.inl p1), some (.inl p2), some (.inl r), dv o16, dv o17] [] (SH L0, D) (some (.inl t0), (SH L0, D))) r := by
    obtain ⟨l3_15, hre⟩ : ∃ q, q = r := ⟨r, rfl⟩
    subst hre
    intro o16 o17
    show EvF mtab d k_X12_weightOf 91 [some (.inr (.inr 187)), some (.inl p1), some (.inl p2), some (.inl l3_15), dv o16, dv o17] [] (SH L0, D) (some (.inl t0), (SH L0, D))
    cases h
    exact ev_ret 2 (fun _ _ => rfl)
  clear h
  refine ev_go 4 (pc' := 5) (L' := [some (.inr (.inr 187)), some (.inl p1), some (.inl p2), some (.inl 0), some (.inl 0), none]) (S' := []) (σ' := (SH L0, D)) (fun _ _ => rfl) ?_
  refine loop_ind (P := fun s => ∀ (o3 : Option (Sum Int Nat)), EvF mtab d k_X12_weightOf 5 [some (.inr (.inr 187)), some (.inl p1), some (.inl p2), some (.inl s.1), some (.inl s.2), dv o3] [] (SH L0, D) (some (.inl t0), (SH L0, D))) (X := fun r => ∀ (o16 : Option (Sum Int Nat)) (o17 : Option (Sum Int Nat)), EvF mtab d k_X12_weightOf 91 [some (.inr (.inr 187)), some (.inl p1), some (.inl p2), some (.inl r), dv o16, dv o17] [] (SH L0, D) (some (.inl t0), (SH L0, D))) hr hX ?_ none
  clear hr hX
  intro s t hb hK0
  obtain ⟨l3_1, l4_2⟩ := s
  intro o3
  show EvF mtab d k_X12_weightOf 5 [some (.inr (.inr 187)), some (.inl p1), some (.inl p2), some (.inl l3_1), some (.inl l4_2), dv o3] [] (SH L0, D) (some (.inl t0), (SH L0, D))
  unfold b_X12_weightOf_5 at hb
  obtain ⟨x4, hx, hb⟩ := bnd hb
  refine ev_call (e_X12_blocks L0 d (by omega) hx) 3 (pc' := 11) (L' := [some (.inr (.inr 187)), some (.inl p1), some (.inl p2), some (.inl l3_1), some (.inl l4_2), dv o3]) (S' := [.inl l4_2]) (fun _ _ => rfl) ?_
  rcases ite_or hb with ⟨hc, hb⟩ | ⟨hc, hb⟩
  · refine ev_ift hc 1 (pc' := 14) (L' := [some (.inr (.inr 187)), some (.inl p1), some (.inl p2), some (.inl l3_1), some (.inl l4_2), dv o3]) (S' := []) (σ' := (SH L0, D)) (fun _ _ => rfl) ?_
    obtain ⟨r, hr, hb⟩ := bnd hb
    have hX : (fun (r : Int) => ∀ (o14 : Option (Sum Int Nat)), EvF mtab d k_X12_weightOf 85 [some (.inr (.inr 187)), some (.inl p1), some (.inl p2), some (.inl r), some (.inl l4_2), dv o14] [] (SH L0, D) (some (.inl t0), (SH L0, D))) r := by
      obtain ⟨l3_13, hre⟩ : ∃ q, q = r := ⟨r, rfl⟩
      subst hre
      intro o14
      show EvF mtab d k_X12_weightOf 85 [some (.inr (.inr 187)), some (.inl p1), some (.inl p2), some (.inl l3_13), some (.inl l4_2), dv o14] [] (SH L0, D) (some (.inl t0), (SH L0, D))
      cases hb
      exact ev_go 2 (pc' := 5) (L' := [some (.inr (.inr 187)), some (.inl p1), some (.inl p2), some (.inl l3_13), some (.inl (w32 (l4_2 + 1))), dv o14]) (S' := []) (σ' := (SH L0, D)) (fun _ _ => rfl) (hK0 o14)
    clear hb
    refine ev_go 2 (pc' := 17) (L' := [some (.inr (.inr 187)), some (.inl p1), some (.inl p2), some (.inl l3_1), some (.inl l4_2), some (.inl 0)]) (S' := []) (σ' := (SH L0, D)) (fun _ _ => rfl) ?_
    refine loop_ind (P := fun s => EvF mtab d k_X12_weightOf 17 [some (.inr (.inr 187)), some (.inl p1), some (.inl p2), some (.inl s.1), some (.inl l4_2), some (.inl s.2)] [] (SH L0, D) (some (.inl t0), (SH L0, D))) (X := fun r => ∀ (o14 : Option (Sum Int Nat)), EvF mtab d k_X12_weightOf 85 [some (.inr (.inr 187)), some (.inl p1), some (.inl p2), some (.inl r), some (.inl l4_2), dv o14] [] (SH L0, D) (some (.inl t0), (SH L0, D))) hr hX ?_
    clear hr hX
    intro s t hb hK1
    obtain ⟨l3_5, l5_6⟩ := s
    show EvF mtab d k_X12_weightOf 17 [some (.inr (.inr 187)), some (.inl p1), some (.inl p2), some (.inl l3_5), some (.inl l4_2), some (.inl l5_6)] [] (SH L0, D) (some (.inl t0), (SH L0, D))
    unfold b_X12_weightOf_17 at hb
    obtain ⟨x7, hx, hb⟩ := bnd hb
    refine ev_bind hx 7 (pc' := 30) (L' := fun x7 => [some (.inr (.inr 187)), some (.inl p1), some (.inl p2), some (.inl l3_5), some (.inl l4_2), some (.inl l5_6)]) (S' := fun x7 => [.inl x7, .inl l5_6]) (σ' := fun x7 => (SH L0, D)) (fun _ _ => rfl) ?_
    rcases ite_or hb with ⟨hc, hb⟩ | ⟨hc, hb⟩
    · refine ev_ift hc 1 (pc' := 33) (L' := [some (.inr (.inr 187)), some (.inl p1), some (.inl p2), some (.inl l3_5), some (.inl l4_2), some (.inl l5_6)]) (S' := []) (σ' := (SH L0, D)) (fun _ _ => rfl) ?_
      obtain ⟨x8, hx, hb⟩ := bnd hb
      refine ev_call (e_X12_funOf L0 d (by omega) hx) 4 (pc' := 40) (L' := [some (.inr (.inr 187)), some (.inl p1), some (.inl p2), some (.inl l3_5), some (.inl l4_2), some (.inl l5_6)]) (S' := [.inl l3_5]) (fun _ _ => rfl) ?_
      obtain ⟨t12, hv, hb⟩ := bnd hb
      have hJ : EvF mtab d k_X12_weightOf 77 [some (.inr (.inr 187)), some (.inl p1), some (.inl p2), some (.inl l3_5), some (.inl l4_2), some (.inl l5_6)] [.inl t12, .inl l3_5] (SH L0, D) (some (.inl t0), (SH L0, D)) := by
        cases hb
        exact ev_go 4 (pc' := 17) (L' := [some (.inr (.inr 187)), some (.inl p1), some (.inl p2), some (.inl (w32 (l3_5 + t12))), some (.inl l4_2), some (.inl (w32 (l5_6 + 1)))]) (S' := []) (σ' := (SH L0, D)) (fun _ _ => rfl) hK1
      clear hb
      rcases ite_or hv with ⟨hc, hv⟩ | ⟨hc, hv⟩
      · refine ev_ift hc 2 (pc' := 44) (L' := [some (.inr (.inr 187)), some (.inl p1), some (.inl p2), some (.inl l3_5), some (.inl l4_2), some (.inl l5_6)]) (S' := [.inl l3_5]) (σ' := (SH L0, D)) (fun _ _ => rfl) ?_
        obtain ⟨x9, hx, hv⟩ := bnd hv
        refine ev_bind hx 10 (pc' := 59) (L' := fun x9 => [some (.inr (.inr 187)), some (.inl p1), some (.inl p2), some (.inl l3_5), some (.inl l4_2), some (.inl l5_6)]) (S' := fun x9 => [.inl x9, .inl l3_5]) (σ' := fun x9 => (SH L0, D)) (fun _ _ => rfl) ?_
        rcases ite_or hv with ⟨hc, hv⟩ | ⟨hc, hv⟩
        · refine ev_ift hc 2 (pc' := 63) (L' := [some (.inr (.inr 187)), some (.inl p1), some (.inl p2), some (.inl l3_5), some (.inl l4_2), some (.inl l5_6)]) (S' := [.inl l3_5]) (σ' := (SH L0, D)) (fun _ _ => rfl) ?_
          obtain ⟨x10, hx, hv⟩ := bnd hv
          refine ev_bind hx 4 (pc' := 70) (L' := fun x10 => [some (.inr (.inr 187)), some (.inl p1), some (.inl p2), some (.inl l3_5), some (.inl l4_2), some (.inl l5_6)]) (S' := fun x10 => [.inl x10, .inl l3_5]) (σ' := fun x10 => (SH L0, D)) (fun _ _ => rfl) ?_
          obtain ⟨x11, hx, hv⟩ := bnd hv
          refine ev_call (e_X12_whole L0 d (by omega) hx) 1 (pc' := 73) (L' := [some (.inr (.inr 187)), some (.inl p1), some (.inl p2), some (.inl l3_5), some (.inl l4_2), some (.inl l5_6)]) (S' := [.inl l3_5]) (fun _ _ => rfl) ?_
          have he0 := Option.some.inj hv
          subst he0
          exact ev_go 1 (pc' := 77) (L' := [some (.inr (.inr 187)), some (.inl p1), some (.inl p2), some (.inl l3_5), some (.inl l4_2), some (.inl l5_6)]) (S' := [.inl x11, .inl l3_5]) (σ' := (SH L0, D)) (fun _ _ => rfl) hJ
        · refine ev_iff hc 2 (pc' := 76) (L' := [some (.inr (.inr 187)), some (.inl p1), some (.inl p2), some (.inl l3_5), some (.inl l4_2), some (.inl l5_6)]) (S' := [.inl l3_5]) (σ' := (SH L0, D)) (fun _ _ => rfl) ?_
          have he0 := Option.some.inj hv
          subst he0
          exact ev_go 1 (pc' := 77) (L' := [some (.inr (.inr 187)), some (.inl p1), some (.inl p2), some (.inl l3_5), some (.inl l4_2), some (.inl l5_6)]) (S' := [.inl 0, .inl l3_5]) (σ' := (SH L0, D)) (fun _ _ => rfl) hJ
      · refine ev_iff hc 2 (pc' := 76) (L' := [some (.inr (.inr 187)), some (.inl p1), some (.inl p2), some (.inl l3_5), some (.inl l4_2), some (.inl l5_6)]) (S' := [.inl l3_5]) (σ' := (SH L0, D)) (fun _ _ => rfl) ?_
        have he0 := Option.some.inj hv
        subst he0
        exact ev_go 1 (pc' := 77) (L' := [some (.inr (.inr 187)), some (.inl p1), some (.inl p2), some (.inl l3_5), some (.inl l4_2), some (.inl l5_6)]) (S' := [.inl 0, .inl l3_5]) (σ' := (SH L0, D)) (fun _ _ => rfl) hJ
    · refine ev_iff hc 1 (pc' := 85) (L' := [some (.inr (.inr 187)), some (.inl p1), some (.inl p2), some (.inl l3_5), some (.inl l4_2), some (.inl l5_6)]) (S' := []) (σ' := (SH L0, D)) (fun _ _ => rfl) ?_
      cases hb
      exact hK1 (some (.inl l5_6))
  · refine ev_iff hc 1 (pc' := 91) (L' := [some (.inr (.inr 187)), some (.inl p1), some (.inl p2), some (.inl l3_1), some (.inl l4_2), dv o3]) (S' := []) (σ' := (SH L0, D)) (fun _ _ => rfl) ?_
    cases hb
    exact hK0 (some (.inl l4_2)) o3
set_option maxRecDepth 100000 in
set_option maxHeartbeats 4000000 in
theorem e_X12_sizesOf (L0 d : Nat) (hd : 2 ≤ d) {p1 : Int} {D : DT} {t0 : Int} (h : m_X12_sizesOf p1 D = some t0) : Ret mtab d 199 [.inr (.inr 187), .inl p1] (SH L0, D) (some (.inl t0), (SH L0, D)) := by
  obtain ⟨d, rfl⟩ : ∃ e, d = e + 1 := ⟨d - 1, by omega⟩
  refine Ret.of (code := k_X12_sizesOf) (ml := 4) rfl ?_
  show EvF mtab d k_X12_sizesOf 0 [some (.inr (.inr 187)), some (.inl p1), none, none] [] (SH L0, D) (some (.inl t0), (SH L0, D))
  unfold m_X12_sizesOf at h
  obtain ⟨r, hr, h⟩ := bnd h
  have hX : (fun (r : Int) => ∀ (o8 : Option (Sum Int Nat)), EvF mtab d k_X12_sizesOf 43 [some (.inr (.inr 187)), some (.inl p1), some (.inl r), dv o8] [] (SH L0, D) (some (.inl t0), (SH L0, D))) r := by
    obtain ⟨l2_7, hre⟩ : ∃ q, q = r := ⟨r, rfl⟩
    subst hre
    intro o8
    show EvF mtab d k_X12_sizesOf 43 [some (.inr (.inr 187)), some (.inl p1), some (.inl l2_7), dv o8] [] (SH L0, D) (some (.inl t0), (SH L0, D))
    cases h
    exact ev_ret 2 (fun _ _ => rfl)
  clear h
  refine ev_go 4 (pc' := 4) (L' := [some (.inr (.inr 187)), some (.inl p1), some (.inl 0), some (.inl 0)]) (S' := []) (σ' := (SH L0, D)) (fun _ _ => rfl) ?_
  refine loop_ind (P := fun s => EvF mtab d k_X12_sizesOf 4 [some (.inr (.inr 187)), some (.inl p1), some (.inl s.1), some (.inl s.2)] [] (SH L0, D) (some (.inl t0), (SH L0, D))) (X := fun r => ∀ (o8 : Option (Sum Int Nat)), EvF mtab d k_X12_sizesOf 43 [some (.inr (.inr 187)), some (.inl p1), some (.inl r), dv o8] [] (SH L0, D) (some (.inl t0), (SH L0, D))) hr hX ?_
  clear hr hX
  intro s t hb hK0
  obtain ⟨l2_1, l3_2⟩ := s
  show EvF mtab d k_X12_sizesOf 4 [some (.inr (.inr 187)), some (.inl p1), some (.inl l2_1), some (.inl l3_2)] [] (SH L0, D) (some (.inl t0), (SH L0, D))
  unfold b_X12_sizesOf_4 at hb
  obtain ⟨x3, hx, hb⟩ := bnd hb
  refine ev_call (e_X12_blocks L0 d (by omega) hx) 3 (pc' := 9) (L' := [some (.inr (.inr 187)), some (.inl p1), some (.inl l2_1), some (.inl l3_2)]) (S' := [.inl l3_2]) (fun _ _ => rfl) ?_
  rcases ite_or hb with ⟨hc, hb⟩ | ⟨hc, hb⟩
  · refine ev_ift hc 1 (pc' := 12) (L' := [some (.inr (.inr 187)), some (.inl p1), some (.inl l2_1), some (.inl l3_2)]) (S' := []) (σ' := (SH L0, D)) (fun _ _ => rfl) ?_
    obtain ⟨x4, hx, hb⟩ := bnd hb
    refine ev_call (e_X12_funOf L0 d (by omega) hx) 4 (pc' := 18) (L' := [some (.inr (.inr 187)), some (.inl p1), some (.inl l2_1), some (.inl l3_2)]) (S' := [.inl l2_1]) (fun _ _ => rfl) ?_
    obtain ⟨t6, hv, hb⟩ := bnd hb
    have hJ : EvF mtab d k_X12_sizesOf 35 [some (.inr (.inr 187)), some (.inl p1), some (.inl l2_1), some (.inl l3_2)] [.inl t6, .inl l2_1] (SH L0, D) (some (.inl t0), (SH L0, D)) := by
      cases hb
      exact ev_go 4 (pc' := 4) (L' := [some (.inr (.inr 187)), some (.inl p1), some (.inl (w32 (l2_1 + t6))), some (.inl (w32 (l3_2 + 1)))]) (S' := []) (σ' := (SH L0, D)) (fun _ _ => rfl) hK0
    clear hb
    rcases ite_or hv with ⟨hc, hv⟩ | ⟨hc, hv⟩
    · refine ev_ift hc 2 (pc' := 22) (L' := [some (.inr (.inr 187)), some (.inl p1), some (.inl l2_1), some (.inl l3_2)]) (S' := [.inl l2_1]) (σ' := (SH L0, D)) (fun _ _ => rfl) ?_
      obtain ⟨x5, hx, hv⟩ := bnd hv
      refine ev_bind hx 6 (pc' := 31) (L' := fun x5 => [some (.inr (.inr 187)), some (.inl p1), some (.inl l2_1), some (.inl l3_2)]) (S' := fun x5 => [.inl x5, .inl l2_1]) (σ' := fun x5 => (SH L0, D)) (fun _ _ => rfl) ?_
      have he0 := Option.some.inj hv
      subst he0
      exact ev_go 1 (pc' := 35) (L' := [some (.inr (.inr 187)), some (.inl p1), some (.inl l2_1), some (.inl l3_2)]) (S' := [.inl x5, .inl l2_1]) (σ' := (SH L0, D)) (fun _ _ => rfl) hJ
    · refine ev_iff hc 2 (pc' := 34) (L' := [some (.inr (.inr 187)), some (.inl p1), some (.inl l2_1), some (.inl l3_2)]) (S' := [.inl l2_1]) (σ' := (SH L0, D)) (fun _ _ => rfl) ?_
      have he0 := Option.some.inj hv
      subst he0
      exact ev_go 1 (pc' := 35) (L' := [some (.inr (.inr 187)), some (.inl p1), some (.inl l2_1), some (.inl l3_2)]) (S' := [.inl 0, .inl l2_1]) (σ' := (SH L0, D)) (fun _ _ => rfl) hJ
  · refine ev_iff hc 1 (pc' := 43) (L' := [some (.inr (.inr 187)), some (.inl p1), some (.inl l2_1), some (.inl l3_2)]) (S' := []) (σ' := (SH L0, D)) (fun _ _ => rfl) ?_
    cases hb
    exact hK0 (some (.inl l3_2))
set_option maxRecDepth 100000 in
set_option maxHeartbeats 4000000 in
theorem e_X12_entryHeat (L0 d : Nat) (hd : 3 ≤ d) {p1 : Int} {D : DT} {t0 : Int} (h : m_X12_entryHeat p1 D = some t0) : Ret mtab d 200 [.inr (.inr 187), .inl p1] (SH L0, D) (some (.inl t0), (SH L0, D)) := by
  obtain ⟨d, rfl⟩ : ∃ e, d = e + 1 := ⟨d - 1, by omega⟩
  refine Ret.of (code := k_X12_entryHeat) (ml := 2) rfl ?_
  show EvF mtab d k_X12_entryHeat 0 [some (.inr (.inr 187)), some (.inl p1)] [] (SH L0, D) (some (.inl t0), (SH L0, D))
  unfold m_X12_entryHeat at h
  obtain ⟨x1, hx, h⟩ := bnd h
  refine ev_call (e_X12_entryOf L0 d (by omega) hx) 5 (pc' := 9) (L' := [some (.inr (.inr 187)), some (.inl p1)]) (S' := [.inr (.inr 190)]) (fun _ _ => rfl) ?_
  obtain ⟨x2, hx, h⟩ := bnd h
  refine ev_bind hx 1 (pc' := 10) (L' := fun x2 => [some (.inr (.inr 187)), some (.inl p1)]) (S' := fun x2 => [.inl x2]) (σ' := fun x2 => (SH L0, D)) (fun _ _ => rfl) ?_
  cases h
  exact ev_ret 1 (fun _ _ => rfl)
set_option maxRecDepth 100000 in
set_option maxHeartbeats 4000000 in
theorem e_X12_callerOf (L0 d : Nat) (hd : 3 ≤ d) {p1 : Int} {D : DT} {t0 : Int} (h : m_X12_callerOf p1 D = some t0) : Ret mtab d 201 [.inr (.inr 187), .inl p1] (SH L0, D) (some (.inl t0), (SH L0, D)) := by
  obtain ⟨d, rfl⟩ : ∃ e, d = e + 1 := ⟨d - 1, by omega⟩
  refine Ret.of (code := k_X12_callerOf) (ml := 4) rfl ?_
  show EvF mtab d k_X12_callerOf 0 [some (.inr (.inr 187)), some (.inl p1), none, none] [] (SH L0, D) (some (.inl t0), (SH L0, D))
  unfold m_X12_callerOf at h
  obtain ⟨r, hr, h⟩ := bnd h
  have hX : (fun (r : Int) => ∀ (o9 : Option (Sum Int Nat)), EvF mtab d k_X12_callerOf 48 [some (.inr (.inr 187)), some (.inl p1), some (.inl r), dv o9] [] (SH L0, D) (some (.inl t0), (SH L0, D))) r := by
    obtain ⟨l2_8, hre⟩ : ∃ q, q = r := ⟨r, rfl⟩
    subst hre
    intro o9
    show EvF mtab d k_X12_callerOf 48 [some (.inr (.inr 187)), some (.inl p1), some (.inl l2_8), dv o9] [] (SH L0, D) (some (.inl t0), (SH L0, D))
    cases h
    exact ev_ret 2 (fun _ _ => rfl)
  clear h
  refine ev_go 4 (pc' := 4) (L' := [some (.inr (.inr 187)), some (.inl p1), some (.inl (-1)), some (.inl 0)]) (S' := []) (σ' := (SH L0, D)) (fun _ _ => rfl) ?_
  refine loop_ind (P := fun s => EvF mtab d k_X12_callerOf 4 [some (.inr (.inr 187)), some (.inl p1), some (.inl s.1), some (.inl s.2)] [] (SH L0, D) (some (.inl t0), (SH L0, D))) (X := fun r => ∀ (o9 : Option (Sum Int Nat)), EvF mtab d k_X12_callerOf 48 [some (.inr (.inr 187)), some (.inl p1), some (.inl r), dv o9] [] (SH L0, D) (some (.inl t0), (SH L0, D))) hr hX ?_
  clear hr hX
  intro s t hb hK0
  obtain ⟨l2_1, l3_2⟩ := s
  show EvF mtab d k_X12_callerOf 4 [some (.inr (.inr 187)), some (.inl p1), some (.inl l2_1), some (.inl l3_2)] [] (SH L0, D) (some (.inl t0), (SH L0, D))
  unfold b_X12_callerOf_4 at hb
  obtain ⟨x3, hx, hb⟩ := bnd hb
  refine ev_call (e_X12_funs L0 d (by omega) hx) 3 (pc' := 9) (L' := [some (.inr (.inr 187)), some (.inl p1), some (.inl l2_1), some (.inl l3_2)]) (S' := [.inl l3_2]) (fun _ _ => rfl) ?_
  rcases ite_or hb with ⟨hc, hb⟩ | ⟨hc, hb⟩
  · refine ev_ift hc 1 (pc' := 12) (L' := [some (.inr (.inr 187)), some (.inl p1), some (.inl l2_1), some (.inl l3_2)]) (S' := []) (σ' := (SH L0, D)) (fun _ _ => rfl) ?_
    obtain ⟨l2_7, hv, hb⟩ := bnd hb
    have hJ : EvF mtab d k_X12_callerOf 42 [some (.inr (.inr 187)), some (.inl p1), some (.inl l2_7), some (.inl l3_2)] [] (SH L0, D) (some (.inl t0), (SH L0, D)) := by
      cases hb
      exact ev_go 2 (pc' := 4) (L' := [some (.inr (.inr 187)), some (.inl p1), some (.inl l2_7), some (.inl (w32 (l3_2 + 1)))]) (S' := []) (σ' := (SH L0, D)) (fun _ _ => rfl) hK0
    clear hb
    rcases ite_or hv with ⟨hc, hv⟩ | ⟨hc, hv⟩
    · refine ev_ift hc 3 (pc' := 42) (L' := [some (.inr (.inr 187)), some (.inl p1), some (.inl l2_1), some (.inl l3_2)]) (S' := []) (σ' := (SH L0, D)) (fun _ _ => rfl) ?_
      have he0 := Option.some.inj hv
      subst he0
      exact hJ
    · refine ev_iff hc 3 (pc' := 17) (L' := [some (.inr (.inr 187)), some (.inl p1), some (.inl l2_1), some (.inl l3_2)]) (S' := []) (σ' := (SH L0, D)) (fun _ _ => rfl) ?_
      obtain ⟨x4, hx, hv⟩ := bnd hv
      refine ev_call (e_X12_weightOf L0 d (by omega) hx) 4 (pc' := 23) (L' := [some (.inr (.inr 187)), some (.inl p1), some (.inl l2_1), some (.inl l3_2)]) (S' := []) (fun _ _ => rfl) ?_
      obtain ⟨t6, hv, hv⟩ := bnd hv
      have hJ : EvF mtab d k_X12_callerOf 37 [some (.inr (.inr 187)), some (.inl p1), some (.inl l2_1), some (.inl l3_2)] [.inl t6, .inl x4] (SH L0, D) (some (.inl t0), (SH L0, D)) := by
        rcases ite_or hv with ⟨hc, hv⟩ | ⟨hc, hv⟩
        · refine ev_ift hc 1 (pc' := 40) (L' := [some (.inr (.inr 187)), some (.inl p1), some (.inl l2_1), some (.inl l3_2)]) (S' := []) (σ' := (SH L0, D)) (fun _ _ => rfl) ?_
          have he0 := Option.some.inj hv
          subst he0
          exact ev_go 2 (pc' := 42) (L' := [some (.inr (.inr 187)), some (.inl p1), some (.inl l3_2), some (.inl l3_2)]) (S' := []) (σ' := (SH L0, D)) (fun _ _ => rfl) hJ
        · refine ev_iff hc 1 (pc' := 42) (L' := [some (.inr (.inr 187)), some (.inl p1), some (.inl l2_1), some (.inl l3_2)]) (S' := []) (σ' := (SH L0, D)) (fun _ _ => rfl) ?_
          have he0 := Option.some.inj hv
          subst he0
          exact hJ
      clear hv
      rcases ite_or hv with ⟨hc, hv⟩ | ⟨hc, hv⟩
      · refine ev_ift hc 2 (pc' := 27) (L' := [some (.inr (.inr 187)), some (.inl p1), some (.inl l2_1), some (.inl l3_2)]) (S' := [.inl x4]) (σ' := (SH L0, D)) (fun _ _ => rfl) ?_
        have he0 := Option.some.inj hv
        subst he0
        exact ev_go 2 (pc' := 37) (L' := [some (.inr (.inr 187)), some (.inl p1), some (.inl l2_1), some (.inl l3_2)]) (S' := [.inl 0, .inl x4]) (σ' := (SH L0, D)) (fun _ _ => rfl) hJ
      · refine ev_iff hc 2 (pc' := 31) (L' := [some (.inr (.inr 187)), some (.inl p1), some (.inl l2_1), some (.inl l3_2)]) (S' := [.inl x4]) (σ' := (SH L0, D)) (fun _ _ => rfl) ?_
        obtain ⟨x5, hx, hv⟩ := bnd hv
        refine ev_call (e_X12_weightOf L0 d (by omega) hx) 4 (pc' := 37) (L' := [some (.inr (.inr 187)), some (.inl p1), some (.inl l2_1), some (.inl l3_2)]) (S' := [.inl x4]) (fun _ _ => rfl) ?_
        have he0 := Option.some.inj hv
        subst he0
        exact hJ
  · refine ev_iff hc 1 (pc' := 48) (L' := [some (.inr (.inr 187)), some (.inl p1), some (.inl l2_1), some (.inl l3_2)]) (S' := []) (σ' := (SH L0, D)) (fun _ _ => rfl) ?_
    cases hb
    exact hK0 (some (.inl l3_2))
set_option maxRecDepth 100000 in
set_option maxHeartbeats 4000000 in
theorem e_X12_sizesIn (L0 d : Nat) (hd : 3 ≤ d) {p1 : Int} {D : DT} {t0 : Int} (h : m_X12_sizesIn p1 D = some t0) : Ret mtab d 202 [.inr (.inr 187), .inl p1] (SH L0, D) (some (.inl t0), (SH L0, D)) := by
  obtain ⟨d, rfl⟩ : ∃ e, d = e + 1 := ⟨d - 1, by omega⟩
  refine Ret.of (code := k_X12_sizesIn) (ml := 4) rfl ?_
  show EvF mtab d k_X12_sizesIn 0 [some (.inr (.inr 187)), some (.inl p1), none, none] [] (SH L0, D) (some (.inl t0), (SH L0, D))
  unfold m_X12_sizesIn at h
  obtain ⟨r, hr, h⟩ := bnd h
  have hX : (fun (r : Int) => ∀ (o8 : Option (Sum Int Nat)), EvF mtab d k_X12_sizesIn 40 [some (.inr (.inr 187)), some (.inl p1), some (.inl r), dv o8] [] (SH L0, D) (some (.inl t0), (SH L0, D))) r := by
    obtain ⟨l2_7, hre⟩ : ∃ q, q = r := ⟨r, rfl⟩
    subst hre
    intro o8
    show EvF mtab d k_X12_sizesIn 40 [some (.inr (.inr 187)), some (.inl p1), some (.inl l2_7), dv o8] [] (SH L0, D) (some (.inl t0), (SH L0, D))
    cases h
    exact ev_ret 2 (fun _ _ => rfl)
  clear h
  refine ev_go 4 (pc' := 4) (L' := [some (.inr (.inr 187)), some (.inl p1), some (.inl 0), some (.inl 0)]) (S' := []) (σ' := (SH L0, D)) (fun _ _ => rfl) ?_
  refine loop_ind (P := fun s => EvF mtab d k_X12_sizesIn 4 [some (.inr (.inr 187)), some (.inl p1), some (.inl s.1), some (.inl s.2)] [] (SH L0, D) (some (.inl t0), (SH L0, D))) (X := fun r => ∀ (o8 : Option (Sum Int Nat)), EvF mtab d k_X12_sizesIn 40 [some (.inr (.inr 187)), some (.inl p1), some (.inl r), dv o8] [] (SH L0, D) (some (.inl t0), (SH L0, D))) hr hX ?_
  clear hr hX
  intro s t hb hK0
  obtain ⟨l2_1, l3_2⟩ := s
  show EvF mtab d k_X12_sizesIn 4 [some (.inr (.inr 187)), some (.inl p1), some (.inl l2_1), some (.inl l3_2)] [] (SH L0, D) (some (.inl t0), (SH L0, D))
  unfold b_X12_sizesIn_4 at hb
  obtain ⟨x3, hx, hb⟩ := bnd hb
  refine ev_call (e_X12_funs L0 d (by omega) hx) 3 (pc' := 9) (L' := [some (.inr (.inr 187)), some (.inl p1), some (.inl l2_1), some (.inl l3_2)]) (S' := [.inl l3_2]) (fun _ _ => rfl) ?_
  rcases ite_or hb with ⟨hc, hb⟩ | ⟨hc, hb⟩
  · refine ev_ift hc 1 (pc' := 12) (L' := [some (.inr (.inr 187)), some (.inl p1), some (.inl l2_1), some (.inl l3_2)]) (S' := []) (σ' := (SH L0, D)) (fun _ _ => rfl) ?_
    obtain ⟨x4, hx, hb⟩ := bnd hb
    refine ev_bind hx 5 (pc' := 19) (L' := fun x4 => [some (.inr (.inr 187)), some (.inl p1), some (.inl l2_1), some (.inl l3_2)]) (S' := fun x4 => [.inl x4, .inl l2_1]) (σ' := fun x4 => (SH L0, D)) (fun _ _ => rfl) ?_
    obtain ⟨t6, hv, hb⟩ := bnd hb
    have hJ : EvF mtab d k_X12_sizesIn 32 [some (.inr (.inr 187)), some (.inl p1), some (.inl l2_1), some (.inl l3_2)] [.inl t6, .inl l2_1] (SH L0, D) (some (.inl t0), (SH L0, D)) := by
      cases hb
      exact ev_go 4 (pc' := 4) (L' := [some (.inr (.inr 187)), some (.inl p1), some (.inl (w32 (l2_1 + t6))), some (.inl (w32 (l3_2 + 1)))]) (S' := []) (σ' := (SH L0, D)) (fun _ _ => rfl) hK0
    clear hb
    rcases ite_or hv with ⟨hc, hv⟩ | ⟨hc, hv⟩
    · refine ev_ift hc 2 (pc' := 23) (L' := [some (.inr (.inr 187)), some (.inl p1), some (.inl l2_1), some (.inl l3_2)]) (S' := [.inl l2_1]) (σ' := (SH L0, D)) (fun _ _ => rfl) ?_
      obtain ⟨x5, hx, hv⟩ := bnd hv
      refine ev_call (e_X12_sizesOf L0 d (by omega) hx) 3 (pc' := 28) (L' := [some (.inr (.inr 187)), some (.inl p1), some (.inl l2_1), some (.inl l3_2)]) (S' := [.inl l2_1]) (fun _ _ => rfl) ?_
      have he0 := Option.some.inj hv
      subst he0
      exact ev_go 1 (pc' := 32) (L' := [some (.inr (.inr 187)), some (.inl p1), some (.inl l2_1), some (.inl l3_2)]) (S' := [.inl x5, .inl l2_1]) (σ' := (SH L0, D)) (fun _ _ => rfl) hJ
    · refine ev_iff hc 2 (pc' := 31) (L' := [some (.inr (.inr 187)), some (.inl p1), some (.inl l2_1), some (.inl l3_2)]) (S' := [.inl l2_1]) (σ' := (SH L0, D)) (fun _ _ => rfl) ?_
      have he0 := Option.some.inj hv
      subst he0
      exact ev_go 1 (pc' := 32) (L' := [some (.inr (.inr 187)), some (.inl p1), some (.inl l2_1), some (.inl l3_2)]) (S' := [.inl 0, .inl l2_1]) (σ' := (SH L0, D)) (fun _ _ => rfl) hJ
  · refine ev_iff hc 1 (pc' := 40) (L' := [some (.inr (.inr 187)), some (.inl p1), some (.inl l2_1), some (.inl l3_2)]) (S' := []) (σ' := (SH L0, D)) (fun _ _ => rfl) ?_
    cases hb
    exact hK0 (some (.inl l3_2))
set_option maxRecDepth 100000 in
set_option maxHeartbeats 4000000 in
theorem e_X12_manyIn (L0 d : Nat) (hd : 2 ≤ d) {p1 : Int} {D : DT} {t0 : Int} (h : m_X12_manyIn p1 D = some t0) : Ret mtab d 203 [.inr (.inr 187), .inl p1] (SH L0, D) (some (.inl t0), (SH L0, D)) := by
  obtain ⟨d, rfl⟩ : ∃ e, d = e + 1 := ⟨d - 1, by omega⟩
  refine Ret.of (code := k_X12_manyIn) (ml := 4) rfl ?_
  show EvF mtab d k_X12_manyIn 0 [some (.inr (.inr 187)), some (.inl p1), none, none] [] (SH L0, D) (some (.inl t0), (SH L0, D))
  unfold m_X12_manyIn at h
  obtain ⟨r, hr, h⟩ := bnd h
  have hX : (fun (r : Int) => ∀ (o7 : Option (Sum Int Nat)), EvF mtab d k_X12_manyIn 36 [some (.inr (.inr 187)), some (.inl p1), some (.inl r), dv o7] [] (SH L0, D) (some (.inl t0), (SH L0, D))) r := by
    obtain ⟨l2_6, hre⟩ : ∃ q, q = r := ⟨r, rfl⟩
    subst hre
    intro o7
    show EvF mtab d k_X12_manyIn 36 [some (.inr (.inr 187)), some (.inl p1), some (.inl l2_6), dv o7] [] (SH L0, D) (some (.inl t0), (SH L0, D))
    cases h
    exact ev_ret 2 (fun _ _ => rfl)
  clear h
  refine ev_go 4 (pc' := 4) (L' := [some (.inr (.inr 187)), some (.inl p1), some (.inl 0), some (.inl 0)]) (S' := []) (σ' := (SH L0, D)) (fun _ _ => rfl) ?_
  refine loop_ind (P := fun s => EvF mtab d k_X12_manyIn 4 [some (.inr (.inr 187)), some (.inl p1), some (.inl s.1), some (.inl s.2)] [] (SH L0, D) (some (.inl t0), (SH L0, D))) (X := fun r => ∀ (o7 : Option (Sum Int Nat)), EvF mtab d k_X12_manyIn 36 [some (.inr (.inr 187)), some (.inl p1), some (.inl r), dv o7] [] (SH L0, D) (some (.inl t0), (SH L0, D))) hr hX ?_
  clear hr hX
  intro s t hb hK0
  obtain ⟨l2_1, l3_2⟩ := s
  show EvF mtab d k_X12_manyIn 4 [some (.inr (.inr 187)), some (.inl p1), some (.inl l2_1), some (.inl l3_2)] [] (SH L0, D) (some (.inl t0), (SH L0, D))
  unfold b_X12_manyIn_4 at hb
  obtain ⟨x3, hx, hb⟩ := bnd hb
  refine ev_call (e_X12_funs L0 d (by omega) hx) 3 (pc' := 9) (L' := [some (.inr (.inr 187)), some (.inl p1), some (.inl l2_1), some (.inl l3_2)]) (S' := [.inl l3_2]) (fun _ _ => rfl) ?_
  rcases ite_or hb with ⟨hc, hb⟩ | ⟨hc, hb⟩
  · refine ev_ift hc 1 (pc' := 12) (L' := [some (.inr (.inr 187)), some (.inl p1), some (.inl l2_1), some (.inl l3_2)]) (S' := []) (σ' := (SH L0, D)) (fun _ _ => rfl) ?_
    obtain ⟨x4, hx, hb⟩ := bnd hb
    refine ev_bind hx 5 (pc' := 19) (L' := fun x4 => [some (.inr (.inr 187)), some (.inl p1), some (.inl l2_1), some (.inl l3_2)]) (S' := fun x4 => [.inl x4, .inl l2_1]) (σ' := fun x4 => (SH L0, D)) (fun _ _ => rfl) ?_
    obtain ⟨t5, hv, hb⟩ := bnd hb
    have hJ : EvF mtab d k_X12_manyIn 28 [some (.inr (.inr 187)), some (.inl p1), some (.inl l2_1), some (.inl l3_2)] [.inl t5, .inl l2_1] (SH L0, D) (some (.inl t0), (SH L0, D)) := by
      cases hb
      exact ev_go 4 (pc' := 4) (L' := [some (.inr (.inr 187)), some (.inl p1), some (.inl (w32 (l2_1 + t5))), some (.inl (w32 (l3_2 + 1)))]) (S' := []) (σ' := (SH L0, D)) (fun _ _ => rfl) hK0
    clear hb
    rcases ite_or hv with ⟨hc, hv⟩ | ⟨hc, hv⟩
    · refine ev_ift hc 2 (pc' := 23) (L' := [some (.inr (.inr 187)), some (.inl p1), some (.inl l2_1), some (.inl l3_2)]) (S' := [.inl l2_1]) (σ' := (SH L0, D)) (fun _ _ => rfl) ?_
      have he0 := Option.some.inj hv
      subst he0
      exact ev_go 2 (pc' := 28) (L' := [some (.inr (.inr 187)), some (.inl p1), some (.inl l2_1), some (.inl l3_2)]) (S' := [.inl 1, .inl l2_1]) (σ' := (SH L0, D)) (fun _ _ => rfl) hJ
    · refine ev_iff hc 2 (pc' := 27) (L' := [some (.inr (.inr 187)), some (.inl p1), some (.inl l2_1), some (.inl l3_2)]) (S' := [.inl l2_1]) (σ' := (SH L0, D)) (fun _ _ => rfl) ?_
      have he0 := Option.some.inj hv
      subst he0
      exact ev_go 1 (pc' := 28) (L' := [some (.inr (.inr 187)), some (.inl p1), some (.inl l2_1), some (.inl l3_2)]) (S' := [.inl 0, .inl l2_1]) (σ' := (SH L0, D)) (fun _ _ => rfl) hJ
  · refine ev_iff hc 1 (pc' := 36) (L' := [some (.inr (.inr 187)), some (.inl p1), some (.inl l2_1), some (.inl l3_2)]) (S' := []) (σ' := (SH L0, D)) (fun _ _ => rfl) ?_
    cases hb
    exact hK0 (some (.inl l3_2))
set_option maxRecDepth 100000 in
set_option maxHeartbeats 4000000 in
theorem e_X12_joins (L0 d : Nat) (hd : 3 ≤ d) {p1 p2 : Int} {D : DT} {t0 : DT} (h : m_X12_joins p1 p2 D = some t0) : Ret mtab d 204 [.inr (.inr 187), .inl p1, .inl p2] (SH L0, D) (none, (SH L0, t0)) := by
  obtain ⟨d, rfl⟩ : ∃ e, d = e + 1 := ⟨d - 1, by omega⟩
  refine Ret.of (code := k_X12_joins) (ml := 7) rfl ?_
  show EvF mtab d k_X12_joins 0 [some (.inr (.inr 187)), some (.inl p1), some (.inl p2), none, none, none, none] [] (SH L0, D) (none, (SH L0, t0))
  unfold m_X12_joins at h
  obtain ⟨x1, hx, h⟩ := bnd h
  refine ev_bind hx 4 (pc' := 6) (L' := fun x1 => [some (.inr (.inr 187)), some (.inl p1), some (.inl p2), none, none, none, none]) (S' := fun x1 => [.inl x1]) (σ' := fun x1 => (SH L0, D)) (fun _ _ => rfl) ?_
  obtain ⟨x2, hx, h⟩ := bnd h
  refine ev_bind hx 5 (pc' := 13) (L' := fun x2 => [some (.inr (.inr 187)), some (.inl p1), some (.inl p2), some (.inl x1), none, none, none]) (S' := fun x2 => [.inl x2]) (σ' := fun x2 => (SH L0, D)) (fun _ _ => rfl) ?_
  obtain ⟨x3, hx, h⟩ := bnd h
  refine ev_call (e_X12_manyIn L0 d (by omega) hx) 4 (pc' := 21) (L' := [some (.inr (.inr 187)), some (.inl p1), some (.inl p2), some (.inl x1), some (.inl x2), none, none]) (S' := []) (fun _ _ => rfl) ?_
  obtain ⟨r, hr, h⟩ := bnd h
  have hX : (fun (r : DT) => ∀ (o12 : Option (Sum Int Nat)), EvF mtab d k_X12_joins 76 [some (.inr (.inr 187)), some (.inl p1), some (.inl p2), some (.inl x1), some (.inl x2), some (.inl x3), dv o12] [] (SH L0, r) (none, (SH L0, t0))) r := by
    obtain ⟨D13, hre⟩ : ∃ q, q = r := ⟨r, rfl⟩
    subst hre
    intro o12
    show EvF mtab d k_X12_joins 76 [some (.inr (.inr 187)), some (.inl p1), some (.inl p2), some (.inl x1), some (.inl x2), some (.inl x3), dv o12] [] (SH L0, D13) (none, (SH L0, t0))
    cases h
    exact ev_ret 1 (fun _ _ => rfl)
  clear h
  refine ev_go 3 (pc' := 26) (L' := [some (.inr (.inr 187)), some (.inl p1), some (.inl p2), some (.inl x1), some (.inl x2), some (.inl x3), some (.inl 0)]) (S' := []) (σ' := (SH L0, D)) (fun _ _ => rfl) ?_
  refine loop_ind (P := fun s => EvF mtab d k_X12_joins 26 [some (.inr (.inr 187)), some (.inl p1), some (.inl p2), some (.inl x1), some (.inl x2), some (.inl x3), some (.inl s.1)] [] (SH L0, s.2) (none, (SH L0, t0))) (X := fun r => ∀ (o12 : Option (Sum Int Nat)), EvF mtab d k_X12_joins 76 [some (.inr (.inr 187)), some (.inl p1), some (.inl p2), some (.inl x1), some (.inl x2), some (.inl x3), dv o12] [] (SH L0, r) (none, (SH L0, t0))) hr hX ?_
  clear hr hX
  intro s t hb hK0
  obtain ⟨l6_4, D5⟩ := s
  show EvF mtab d k_X12_joins 26 [some (.inr (.inr 187)), some (.inl p1), some (.inl p2), some (.inl x1), some (.inl x2), some (.inl x3), some (.inl l6_4)] [] (SH L0, D5) (none, (SH L0, t0))
  unfold b_X12_joins_26 at hb
  obtain ⟨x6, hx, hb⟩ := bnd hb
  refine ev_call (e_X12_funs L0 d (by omega) hx) 3 (pc' := 32) (L' := [some (.inr (.inr 187)), some (.inl p1), some (.inl p2), some (.inl x1), some (.inl x2), some (.inl x3), some (.inl l6_4)]) (S' := [.inl l6_4]) (fun _ _ => rfl) ?_
  rcases ite_or hb with ⟨hc, hb⟩ | ⟨hc, hb⟩
  · refine ev_ift hc 1 (pc' := 35) (L' := [some (.inr (.inr 187)), some (.inl p1), some (.inl p2), some (.inl x1), some (.inl x2), some (.inl x3), some (.inl l6_4)]) (S' := []) (σ' := (SH L0, D5)) (fun _ _ => rfl) ?_
    obtain ⟨x7, hx, hb⟩ := bnd hb
    refine ev_bind hx 4 (pc' := 42) (L' := fun x7 => [some (.inr (.inr 187)), some (.inl p1), some (.inl p2), some (.inl x1), some (.inl x2), some (.inl x3), some (.inl l6_4)]) (S' := fun x7 => [.inl x7]) (σ' := fun x7 => (SH L0, D5)) (fun _ _ => rfl) ?_
    obtain ⟨D11, hv, hb⟩ := bnd hb
    have hJ : EvF mtab d k_X12_joins 70 [some (.inr (.inr 187)), some (.inl p1), some (.inl p2), some (.inl x1), some (.inl x2), some (.inl x3), some (.inl l6_4)] [] (SH L0, D11) (none, (SH L0, t0)) := by
      cases hb
      exact ev_go 2 (pc' := 26) (L' := [some (.inr (.inr 187)), some (.inl p1), some (.inl p2), some (.inl x1), some (.inl x2), some (.inl x3), some (.inl (w32 (l6_4 + 1)))]) (S' := []) (σ' := (SH L0, D11)) (fun _ _ => rfl) hK0
    clear hb
    rcases ite_or hv with ⟨hc, hv⟩ | ⟨hc, hv⟩
    · refine ev_ift hc 2 (pc' := 49) (L' := [some (.inr (.inr 187)), some (.inl p1), some (.inl p2), some (.inl x1), some (.inl x2), some (.inl x3), some (.inl l6_4)]) (S' := []) (σ' := (SH L0, D5)) (fun _ _ => rfl) ?_
      obtain ⟨x8, hx, hv⟩ := bnd hv
      refine ev_bind hx 5 (pc' := 57) (L' := fun x8 => [some (.inr (.inr 187)), some (.inl p1), some (.inl p2), some (.inl x1), some (.inl x2), some (.inl x3), some (.inl l6_4)]) (S' := fun x8 => [.inl x8, .inl l6_4, .inr (.inr 205)]) (σ' := fun x8 => (SH L0, D5)) (fun _ _ => rfl) ?_
      obtain ⟨D9, hx, hv⟩ := bnd hv
      refine ev_bind hx 3 (pc' := 61) (L' := fun D9 => [some (.inr (.inr 187)), some (.inl p1), some (.inl p2), some (.inl x1), some (.inl x2), some (.inl x3), some (.inl l6_4)]) (S' := fun D9 => []) (σ' := fun D9 => (SH L0, D9)) (fun _ _ => rfl) ?_
      obtain ⟨D10, hx, hv⟩ := bnd hv
      refine ev_bind hx 5 (pc' := 70) (L' := fun D10 => [some (.inr (.inr 187)), some (.inl p1), some (.inl p2), some (.inl x1), some (.inl x2), some (.inl x3), some (.inl l6_4)]) (S' := fun D10 => []) (σ' := fun D10 => (SH L0, D10)) (fun _ _ => rfl) ?_
      have he0 := Option.some.inj hv
      subst he0
      exact hJ
    · refine ev_iff hc 2 (pc' := 46) (L' := [some (.inr (.inr 187)), some (.inl p1), some (.inl p2), some (.inl x1), some (.inl x2), some (.inl x3), some (.inl l6_4)]) (S' := []) (σ' := (SH L0, D5)) (fun _ _ => rfl) ?_
      have he0 := Option.some.inj hv
      subst he0
      exact ev_go 1 (pc' := 70) (L' := [some (.inr (.inr 187)), some (.inl p1), some (.inl p2), some (.inl x1), some (.inl x2), some (.inl x3), some (.inl l6_4)]) (S' := []) (σ' := (SH L0, D5)) (fun _ _ => rfl) hJ
  · refine ev_iff hc 1 (pc' := 76) (L' := [some (.inr (.inr 187)), some (.inl p1), some (.inl p2), some (.inl x1), some (.inl x2), some (.inl x3), some (.inl l6_4)]) (S' := []) (σ' := (SH L0, D5)) (fun _ _ => rfl) ?_
    cases hb
    exact hK0 (some (.inl l6_4))
set_option maxRecDepth 100000 in
set_option maxHeartbeats 4000000 in
theorem e_X12_hottest (L0 d : Nat) (hd : 4 ≤ d) {D : DT} {t0 : Int} (h : m_X12_hottest  D = some t0) : Ret mtab d 205 [.inr (.inr 187)] (SH L0, D) (some (.inl t0), (SH L0, D)) := by
  obtain ⟨d, rfl⟩ : ∃ e, d = e + 1 := ⟨d - 1, by omega⟩
  refine Ret.of (code := k_X12_hottest) (ml := 3) rfl ?_
  show EvF mtab d k_X12_hottest 0 [some (.inr (.inr 187)), none, none] [] (SH L0, D) (some (.inl t0), (SH L0, D))
  unfold m_X12_hottest at h
  obtain ⟨r, hr, h⟩ := bnd h
  have hX : (fun (r : Int) => ∀ (o9 : Option (Sum Int Nat)), EvF mtab d k_X12_hottest 46 [some (.inr (.inr 187)), some (.inl r), dv o9] [] (SH L0, D) (some (.inl t0), (SH L0, D))) r := by
    obtain ⟨l1_8, hre⟩ : ∃ q, q = r := ⟨r, rfl⟩
    subst hre
    intro o9
    show EvF mtab d k_X12_hottest 46 [some (.inr (.inr 187)), some (.inl l1_8), dv o9] [] (SH L0, D) (some (.inl t0), (SH L0, D))
    cases h
    exact ev_ret 2 (fun _ _ => rfl)
  clear h
  refine ev_go 4 (pc' := 4) (L' := [some (.inr (.inr 187)), some (.inl (-1)), some (.inl 0)]) (S' := []) (σ' := (SH L0, D)) (fun _ _ => rfl) ?_
  refine loop_ind (P := fun s => EvF mtab d k_X12_hottest 4 [some (.inr (.inr 187)), some (.inl s.1), some (.inl s.2)] [] (SH L0, D) (some (.inl t0), (SH L0, D))) (X := fun r => ∀ (o9 : Option (Sum Int Nat)), EvF mtab d k_X12_hottest 46 [some (.inr (.inr 187)), some (.inl r), dv o9] [] (SH L0, D) (some (.inl t0), (SH L0, D))) hr hX ?_
  clear hr hX
  intro s t hb hK0
  obtain ⟨l1_1, l2_2⟩ := s
  show EvF mtab d k_X12_hottest 4 [some (.inr (.inr 187)), some (.inl l1_1), some (.inl l2_2)] [] (SH L0, D) (some (.inl t0), (SH L0, D))
  unfold b_X12_hottest_4 at hb
  obtain ⟨x3, hx, hb⟩ := bnd hb
  refine ev_call (e_X12_funs L0 d (by omega) hx) 3 (pc' := 9) (L' := [some (.inr (.inr 187)), some (.inl l1_1), some (.inl l2_2)]) (S' := [.inl l2_2]) (fun _ _ => rfl) ?_
  rcases ite_or hb with ⟨hc, hb⟩ | ⟨hc, hb⟩
  · refine ev_ift hc 1 (pc' := 12) (L' := [some (.inr (.inr 187)), some (.inl l1_1), some (.inl l2_2)]) (S' := []) (σ' := (SH L0, D)) (fun _ _ => rfl) ?_
    obtain ⟨x4, hx, hb⟩ := bnd hb
    refine ev_bind hx 4 (pc' := 18) (L' := fun x4 => [some (.inr (.inr 187)), some (.inl l1_1), some (.inl l2_2)]) (S' := fun x4 => [.inl x4]) (σ' := fun x4 => (SH L0, D)) (fun _ _ => rfl) ?_
    obtain ⟨l1_7, hv, hb⟩ := bnd hb
    have hJ : EvF mtab d k_X12_hottest 40 [some (.inr (.inr 187)), some (.inl l1_7), some (.inl l2_2)] [] (SH L0, D) (some (.inl t0), (SH L0, D)) := by
      cases hb
      exact ev_go 2 (pc' := 4) (L' := [some (.inr (.inr 187)), some (.inl l1_7), some (.inl (w32 (l2_2 + 1)))]) (S' := []) (σ' := (SH L0, D)) (fun _ _ => rfl) hK0
    clear hb
    rcases ite_or hv with ⟨hc, hv⟩ | ⟨hc, hv⟩
    · refine ev_ift hc 1 (pc' := 21) (L' := [some (.inr (.inr 187)), some (.inl l1_1), some (.inl l2_2)]) (S' := []) (σ' := (SH L0, D)) (fun _ _ => rfl) ?_
      rcases ite_or hv with ⟨hc, hv⟩ | ⟨hc, hv⟩
      · refine ev_ift hc 2 (pc' := 38) (L' := [some (.inr (.inr 187)), some (.inl l1_1), some (.inl l2_2)]) (S' := []) (σ' := (SH L0, D)) (fun _ _ => rfl) ?_
        have he0 := Option.some.inj hv
        subst he0
        exact ev_go 2 (pc' := 40) (L' := [some (.inr (.inr 187)), some (.inl l2_2), some (.inl l2_2)]) (S' := []) (σ' := (SH L0, D)) (fun _ _ => rfl) hJ
      · refine ev_iff hc 2 (pc' := 25) (L' := [some (.inr (.inr 187)), some (.inl l1_1), some (.inl l2_2)]) (S' := []) (σ' := (SH L0, D)) (fun _ _ => rfl) ?_
        obtain ⟨x5, hx, hv⟩ := bnd hv
        refine ev_call (e_X12_entryHeat L0 d (by omega) hx) 3 (pc' := 30) (L' := [some (.inr (.inr 187)), some (.inl l1_1), some (.inl l2_2)]) (S' := []) (fun _ _ => rfl) ?_
        obtain ⟨x6, hx, hv⟩ := bnd hv
        refine ev_call (e_X12_entryHeat L0 d (by omega) hx) 3 (pc' := 35) (L' := [some (.inr (.inr 187)), some (.inl l1_1), some (.inl l2_2)]) (S' := [.inl x5]) (fun _ _ => rfl) ?_
        rcases ite_or hv with ⟨hc, hv⟩ | ⟨hc, hv⟩
        · refine ev_ift hc 1 (pc' := 38) (L' := [some (.inr (.inr 187)), some (.inl l1_1), some (.inl l2_2)]) (S' := []) (σ' := (SH L0, D)) (fun _ _ => rfl) ?_
          have he0 := Option.some.inj hv
          subst he0
          exact ev_go 2 (pc' := 40) (L' := [some (.inr (.inr 187)), some (.inl l2_2), some (.inl l2_2)]) (S' := []) (σ' := (SH L0, D)) (fun _ _ => rfl) hJ
        · refine ev_iff hc 1 (pc' := 40) (L' := [some (.inr (.inr 187)), some (.inl l1_1), some (.inl l2_2)]) (S' := []) (σ' := (SH L0, D)) (fun _ _ => rfl) ?_
          have he0 := Option.some.inj hv
          subst he0
          exact hJ
    · refine ev_iff hc 1 (pc' := 40) (L' := [some (.inr (.inr 187)), some (.inl l1_1), some (.inl l2_2)]) (S' := []) (σ' := (SH L0, D)) (fun _ _ => rfl) ?_
      have he0 := Option.some.inj hv
      subst he0
      exact hJ
  · refine ev_iff hc 1 (pc' := 46) (L' := [some (.inr (.inr 187)), some (.inl l1_1), some (.inl l2_2)]) (S' := []) (σ' := (SH L0, D)) (fun _ _ => rfl) ?_
    cases hb
    exact hK0 (some (.inl l2_2))
set_option maxRecDepth 100000 in
set_option maxHeartbeats 4000000 in
theorem e_X12_density (L0 d : Nat) (hd : 4 ≤ d) {p1 : Int} {D : DT} {t0 : Int} (h : m_X12_density p1 D = some t0) : Ret mtab d 206 [.inr (.inr 187), .inl p1] (SH L0, D) (some (.inl t0), (SH L0, D)) := by
  obtain ⟨d, rfl⟩ : ∃ e, d = e + 1 := ⟨d - 1, by omega⟩
  refine Ret.of (code := k_X12_density) (ml := 5) rfl ?_
  show EvF mtab d k_X12_density 0 [some (.inr (.inr 187)), some (.inl p1), none, none, none] [] (SH L0, D) (some (.inl t0), (SH L0, D))
  unfold m_X12_density at h
  obtain ⟨r, hr, h⟩ := bnd h
  have hX : (fun (r : Int) => ∀ (o9 : Option (Sum Int Nat)) (o10 : Option (Sum Int Nat)), EvF mtab d k_X12_density 45 [some (.inr (.inr 187)), some (.inl p1), some (.inr (.inl r)), dv o9, dv o10] [] (SH L0, D) (some (.inl t0), (SH L0, D))) r := by
    obtain ⟨l2_8, hre⟩ : ∃ q, q = r := ⟨r, rfl⟩
    subst hre
    intro o9 o10
    show EvF mtab d k_X12_density 45 [some (.inr (.inr 187)), some (.inl p1), some (.inr (.inl l2_8)), dv o9, dv o10] [] (SH L0, D) (some (.inl t0), (SH L0, D))
    obtain ⟨x11, hx, h⟩ := bnd h
    refine ev_call (e_X12_sizesIn L0 d (by omega) hx) 6 (pc' := 55) (L' := [some (.inr (.inr 187)), some (.inl p1), some (.inr (.inl l2_8)), dv o9, dv o10]) (S' := [.inr (.inl (w64 (l2_8 * 1000)))]) (fun _ _ => rfl) ?_
    obtain ⟨x12, hx, h⟩ := bnd h
    refine ev_bind hx 2 (pc' := 57) (L' := fun x12 => [some (.inr (.inr 187)), some (.inl p1), some (.inr (.inl l2_8)), dv o9, dv o10]) (S' := fun x12 => [.inr (.inl x12)]) (σ' := fun x12 => (SH L0, D)) (fun _ _ => rfl) ?_
    cases h
    exact ev_ret 2 (fun _ _ => rfl)
  clear h
  refine ev_go 4 (pc' := 5) (L' := [some (.inr (.inr 187)), some (.inl p1), some (.inr (.inl 0)), none, some (.inl 0)]) (S' := []) (σ' := (SH L0, D)) (fun _ _ => rfl) ?_
  refine loop_ind (P := fun s => ∀ (o2 : Option (Sum Int Nat)), EvF mtab d k_X12_density 5 [some (.inr (.inr 187)), some (.inl p1), some (.inr (.inl s.1)), dv o2, some (.inl s.2)] [] (SH L0, D) (some (.inl t0), (SH L0, D))) (X := fun r => ∀ (o9 : Option (Sum Int Nat)) (o10 : Option (Sum Int Nat)), EvF mtab d k_X12_density 45 [some (.inr (.inr 187)), some (.inl p1), some (.inr (.inl r)), dv o9, dv o10] [] (SH L0, D) (some (.inl t0), (SH L0, D))) hr hX ?_ none
  clear hr hX
  intro s t hb hK0
  obtain ⟨l2_1, l4_3⟩ := s
  intro o2
  show EvF mtab d k_X12_density 5 [some (.inr (.inr 187)), some (.inl p1), some (.inr (.inl l2_1)), dv o2, some (.inl l4_3)] [] (SH L0, D) (some (.inl t0), (SH L0, D))
  unfold b_X12_density_5 at hb
  obtain ⟨x4, hx, hb⟩ := bnd hb
  refine ev_call (e_X12_funs L0 d (by omega) hx) 3 (pc' := 11) (L' := [some (.inr (.inr 187)), some (.inl p1), some (.inr (.inl l2_1)), dv o2, some (.inl l4_3)]) (S' := [.inl l4_3]) (fun _ _ => rfl) ?_
  rcases ite_or hb with ⟨hc, hb⟩ | ⟨hc, hb⟩
  · refine ev_ift hc 1 (pc' := 14) (L' := [some (.inr (.inr 187)), some (.inl p1), some (.inr (.inl l2_1)), dv o2, some (.inl l4_3)]) (S' := []) (σ' := (SH L0, D)) (fun _ _ => rfl) ?_
    obtain ⟨x5, hx, hb⟩ := bnd hb
    refine ev_bind hx 5 (pc' := 22) (L' := fun x5 => [some (.inr (.inr 187)), some (.inl p1), some (.inr (.inl l2_1)), dv o2, some (.inl l4_3)]) (S' := fun x5 => [.inl x5, .inr (.inl l2_1)]) (σ' := fun x5 => (SH L0, D)) (fun _ _ => rfl) ?_
    obtain ⟨t7, hv, hb⟩ := bnd hb
    have hJ : EvF mtab d k_X12_density 37 [some (.inr (.inr 187)), some (.inl p1), some (.inr (.inl l2_1)), dv o2, some (.inl l4_3)] [.inr (.inl t7), .inr (.inl l2_1)] (SH L0, D) (some (.inl t0), (SH L0, D)) := by
      cases hb
      exact ev_go 4 (pc' := 5) (L' := [some (.inr (.inr 187)), some (.inl p1), some (.inr (.inl (w64 (l2_1 + t7)))), none, some (.inl (w32 (l4_3 + 1)))]) (S' := []) (σ' := (SH L0, D)) (fun _ _ => rfl) (hK0 none)
    clear hb
    rcases ite_or hv with ⟨hc, hv⟩ | ⟨hc, hv⟩
    · refine ev_ift hc 2 (pc' := 26) (L' := [some (.inr (.inr 187)), some (.inl p1), some (.inr (.inl l2_1)), dv o2, some (.inl l4_3)]) (S' := [.inr (.inl l2_1)]) (σ' := (SH L0, D)) (fun _ _ => rfl) ?_
      obtain ⟨x6, hx, hv⟩ := bnd hv
      refine ev_call (e_X12_entryHeat L0 d (by omega) hx) 3 (pc' := 32) (L' := [some (.inr (.inr 187)), some (.inl p1), some (.inr (.inl l2_1)), dv o2, some (.inl l4_3)]) (S' := [.inr (.inl l2_1)]) (fun _ _ => rfl) ?_
      have he0 := Option.some.inj hv
      subst he0
      exact ev_go 2 (pc' := 37) (L' := [some (.inr (.inr 187)), some (.inl p1), some (.inr (.inl l2_1)), dv o2, some (.inl l4_3)]) (S' := [.inr (.inl x6), .inr (.inl l2_1)]) (σ' := (SH L0, D)) (fun _ _ => rfl) hJ
    · refine ev_iff hc 2 (pc' := 36) (L' := [some (.inr (.inr 187)), some (.inl p1), some (.inr (.inl l2_1)), dv o2, some (.inl l4_3)]) (S' := [.inr (.inl l2_1)]) (σ' := (SH L0, D)) (fun _ _ => rfl) ?_
      have he0 := Option.some.inj hv
      subst he0
      exact ev_go 1 (pc' := 37) (L' := [some (.inr (.inr 187)), some (.inl p1), some (.inr (.inl l2_1)), dv o2, some (.inl l4_3)]) (S' := [.inr (.inl 0), .inr (.inl l2_1)]) (σ' := (SH L0, D)) (fun _ _ => rfl) hJ
  · refine ev_iff hc 1 (pc' := 45) (L' := [some (.inr (.inr 187)), some (.inl p1), some (.inr (.inl l2_1)), dv o2, some (.inl l4_3)]) (S' := []) (σ' := (SH L0, D)) (fun _ _ => rfl) ?_
    cases hb
    exact hK0 o2 (some (.inl l4_3))
set_option maxRecDepth 100000 in
set_option maxHeartbeats 4000000 in
theorem e_X12_nextCluster (L0 d : Nat) (hd : 5 ≤ d) {D : DT} {t0 : Int} (h : m_X12_nextCluster  D = some t0) : Ret mtab d 207 [.inr (.inr 187)] (SH L0, D) (some (.inl t0), (SH L0, D)) := by
  obtain ⟨d, rfl⟩ : ∃ e, d = e + 1 := ⟨d - 1, by omega⟩
  refine Ret.of (code := k_X12_nextCluster) (ml := 3) rfl ?_
  show EvF mtab d k_X12_nextCluster 0 [some (.inr (.inr 187)), none, none] [] (SH L0, D) (some (.inl t0), (SH L0, D))
  unfold m_X12_nextCluster at h
  obtain ⟨r, hr, h⟩ := bnd h
  have hX : (fun (r : Int) => ∀ (o12 : Option (Sum Int Nat)), EvF mtab d k_X12_nextCluster 56 [some (.inr (.inr 187)), some (.inl r), dv o12] [] (SH L0, D) (some (.inl t0), (SH L0, D))) r := by
    obtain ⟨l1_11, hre⟩ : ∃ q, q = r := ⟨r, rfl⟩
    subst hre
    intro o12
    show EvF mtab d k_X12_nextCluster 56 [some (.inr (.inr 187)), some (.inl l1_11), dv o12] [] (SH L0, D) (some (.inl t0), (SH L0, D))
    cases h
    exact ev_ret 2 (fun _ _ => rfl)
  clear h
  refine ev_go 4 (pc' := 4) (L' := [some (.inr (.inr 187)), some (.inl (-1)), some (.inl 0)]) (S' := []) (σ' := (SH L0, D)) (fun _ _ => rfl) ?_
  refine loop_ind (P := fun s => EvF mtab d k_X12_nextCluster 4 [some (.inr (.inr 187)), some (.inl s.1), some (.inl s.2)] [] (SH L0, D) (some (.inl t0), (SH L0, D))) (X := fun r => ∀ (o12 : Option (Sum Int Nat)), EvF mtab d k_X12_nextCluster 56 [some (.inr (.inr 187)), some (.inl r), dv o12] [] (SH L0, D) (some (.inl t0), (SH L0, D))) hr hX ?_
  clear hr hX
  intro s t hb hK0
  obtain ⟨l1_1, l2_2⟩ := s
  show EvF mtab d k_X12_nextCluster 4 [some (.inr (.inr 187)), some (.inl l1_1), some (.inl l2_2)] [] (SH L0, D) (some (.inl t0), (SH L0, D))
  unfold b_X12_nextCluster_4 at hb
  obtain ⟨x3, hx, hb⟩ := bnd hb
  refine ev_call (e_X12_funs L0 d (by omega) hx) 3 (pc' := 9) (L' := [some (.inr (.inr 187)), some (.inl l1_1), some (.inl l2_2)]) (S' := [.inl l2_2]) (fun _ _ => rfl) ?_
  rcases ite_or hb with ⟨hc, hb⟩ | ⟨hc, hb⟩
  · refine ev_ift hc 1 (pc' := 12) (L' := [some (.inr (.inr 187)), some (.inl l1_1), some (.inl l2_2)]) (S' := []) (σ' := (SH L0, D)) (fun _ _ => rfl) ?_
    obtain ⟨x4, hx, hb⟩ := bnd hb
    refine ev_bind hx 4 (pc' := 18) (L' := fun x4 => [some (.inr (.inr 187)), some (.inl l1_1), some (.inl l2_2)]) (S' := fun x4 => [.inl x4]) (σ' := fun x4 => (SH L0, D)) (fun _ _ => rfl) ?_
    obtain ⟨l1_10, hv, hb⟩ := bnd hb
    have hJ : EvF mtab d k_X12_nextCluster 50 [some (.inr (.inr 187)), some (.inl l1_10), some (.inl l2_2)] [] (SH L0, D) (some (.inl t0), (SH L0, D)) := by
      cases hb
      exact ev_go 2 (pc' := 4) (L' := [some (.inr (.inr 187)), some (.inl l1_10), some (.inl (w32 (l2_2 + 1)))]) (S' := []) (σ' := (SH L0, D)) (fun _ _ => rfl) hK0
    clear hb
    rcases ite_or hv with ⟨hc, hv⟩ | ⟨hc, hv⟩
    · refine ev_ift hc 1 (pc' := 21) (L' := [some (.inr (.inr 187)), some (.inl l1_1), some (.inl l2_2)]) (S' := []) (σ' := (SH L0, D)) (fun _ _ => rfl) ?_
      rcases ite_or hv with ⟨hc, hv⟩ | ⟨hc, hv⟩
      · refine ev_ift hc 2 (pc' := 43) (L' := [some (.inr (.inr 187)), some (.inl l1_1), some (.inl l2_2)]) (S' := []) (σ' := (SH L0, D)) (fun _ _ => rfl) ?_
        obtain ⟨x5, hx, hv⟩ := bnd hv
        refine ev_bind hx 4 (pc' := 49) (L' := fun x5 => [some (.inr (.inr 187)), some (.inl l1_1), some (.inl l2_2)]) (S' := fun x5 => [.inl x5]) (σ' := fun x5 => (SH L0, D)) (fun _ _ => rfl) ?_
        have he0 := Option.some.inj hv
        subst he0
        exact ev_go 1 (pc' := 50) (L' := [some (.inr (.inr 187)), some (.inl x5), some (.inl l2_2)]) (S' := []) (σ' := (SH L0, D)) (fun _ _ => rfl) hJ
      · refine ev_iff hc 2 (pc' := 25) (L' := [some (.inr (.inr 187)), some (.inl l1_1), some (.inl l2_2)]) (S' := []) (σ' := (SH L0, D)) (fun _ _ => rfl) ?_
        obtain ⟨x6, hx, hv⟩ := bnd hv
        refine ev_bind hx 5 (pc' := 32) (L' := fun x6 => [some (.inr (.inr 187)), some (.inl l1_1), some (.inl l2_2)]) (S' := fun x6 => [.inl x6, .inr (.inr 187)]) (σ' := fun x6 => (SH L0, D)) (fun _ _ => rfl) ?_
        obtain ⟨x7, hx, hv⟩ := bnd hv
        refine ev_call (e_X12_density L0 d (by omega) hx) 1 (pc' := 35) (L' := [some (.inr (.inr 187)), some (.inl l1_1), some (.inl l2_2)]) (S' := []) (fun _ _ => rfl) ?_
        obtain ⟨x8, hx, hv⟩ := bnd hv
        refine ev_call (e_X12_density L0 d (by omega) hx) 3 (pc' := 40) (L' := [some (.inr (.inr 187)), some (.inl l1_1), some (.inl l2_2)]) (S' := [.inl x7]) (fun _ _ => rfl) ?_
        rcases ite_or hv with ⟨hc, hv⟩ | ⟨hc, hv⟩
        · refine ev_ift hc 1 (pc' := 43) (L' := [some (.inr (.inr 187)), some (.inl l1_1), some (.inl l2_2)]) (S' := []) (σ' := (SH L0, D)) (fun _ _ => rfl) ?_
          obtain ⟨x9, hx, hv⟩ := bnd hv
          refine ev_bind hx 4 (pc' := 49) (L' := fun x9 => [some (.inr (.inr 187)), some (.inl l1_1), some (.inl l2_2)]) (S' := fun x9 => [.inl x9]) (σ' := fun x9 => (SH L0, D)) (fun _ _ => rfl) ?_
          have he0 := Option.some.inj hv
          subst he0
          exact ev_go 1 (pc' := 50) (L' := [some (.inr (.inr 187)), some (.inl x9), some (.inl l2_2)]) (S' := []) (σ' := (SH L0, D)) (fun _ _ => rfl) hJ
        · refine ev_iff hc 1 (pc' := 50) (L' := [some (.inr (.inr 187)), some (.inl l1_1), some (.inl l2_2)]) (S' := []) (σ' := (SH L0, D)) (fun _ _ => rfl) ?_
          have he0 := Option.some.inj hv
          subst he0
          exact hJ
    · refine ev_iff hc 1 (pc' := 50) (L' := [some (.inr (.inr 187)), some (.inl l1_1), some (.inl l2_2)]) (S' := []) (σ' := (SH L0, D)) (fun _ _ => rfl) ?_
      have he0 := Option.some.inj hv
      subst he0
      exact hJ
  · refine ev_iff hc 1 (pc' := 56) (L' := [some (.inr (.inr 187)), some (.inl l1_1), some (.inl l2_2)]) (S' := []) (σ' := (SH L0, D)) (fun _ _ => rfl) ?_
    cases hb
    exact hK0 (some (.inl l2_2))
set_option maxRecDepth 100000 in
set_option maxHeartbeats 4000000 in
theorem e_X12_laysClusters (L0 d : Nat) (hd : 6 ≤ d) {D : DT} {t0 : DT} (h : m_X12_laysClusters  D = some t0) : Ret mtab d 208 [.inr (.inr 187)] (SH L0, D) (none, (SH L0, t0)) := by
  obtain ⟨d, rfl⟩ : ∃ e, d = e + 1 := ⟨d - 1, by omega⟩
  refine Ret.of (code := k_X12_laysClusters) (ml := 5) rfl ?_
  show EvF mtab d k_X12_laysClusters 0 [some (.inr (.inr 187)), none, none, none, none] [] (SH L0, D) (none, (SH L0, t0))
  unfold m_X12_laysClusters at h
  obtain ⟨r, hr, h⟩ := bnd h
  have hX : (fun (r : DT) => ∀ (o10 : Option (Sum Int Nat)), EvF mtab d k_X12_laysClusters 48 [some (.inr (.inr 187)), dv o10, none, none, none] [] (SH L0, r) (none, (SH L0, t0))) r := by
    obtain ⟨D11, hre⟩ : ∃ q, q = r := ⟨r, rfl⟩
    subst hre
    intro o10
    show EvF mtab d k_X12_laysClusters 48 [some (.inr (.inr 187)), dv o10, none, none, none] [] (SH L0, D11) (none, (SH L0, t0))
    obtain ⟨x12, hx, h⟩ := bnd h
    refine ev_call (e_X12_hottest L0 d (by omega) hx) 2 (pc' := 52) (L' := [some (.inr (.inr 187)), dv o10, none, none, none]) (S' := []) (fun _ _ => rfl) ?_
    obtain ⟨r, hr, h⟩ := bnd h
    have hX : (fun (r : DT) => ∀ (o29 : Option (Sum Int Nat)) (o30 : Option (Sum Int Nat)), EvF mtab d k_X12_laysClusters 134 [some (.inr (.inr 187)), dv o29, dv o30, none, none] [] (SH L0, r) (none, (SH L0, t0))) r := by
      obtain ⟨D31, hre⟩ : ∃ q, q = r := ⟨r, rfl⟩
      subst hre
      intro o29 o30
      show EvF mtab d k_X12_laysClusters 134 [some (.inr (.inr 187)), dv o29, dv o30, none, none] [] (SH L0, D31) (none, (SH L0, t0))
      obtain ⟨r, hr, h⟩ := bnd h
      have hX : (fun (r : DT) => ∀ (o37 : Option (Sum Int Nat)), EvF mtab d k_X12_laysClusters 157 [some (.inr (.inr 187)), dv o37, dv o30, none, none] [] (SH L0, r) (none, (SH L0, t0))) r := by
        obtain ⟨D38, hre⟩ : ∃ q, q = r := ⟨r, rfl⟩
        subst hre
        intro o37
        show EvF mtab d k_X12_laysClusters 157 [some (.inr (.inr 187)), dv o37, dv o30, none, none] [] (SH L0, D38) (none, (SH L0, t0))
        obtain ⟨x39, hx, h⟩ := bnd h
        refine ev_call (e_X12_nextCluster L0 d (by omega) hx) 7 (pc' := 168) (L' := [some (.inr (.inr 187)), some (.inl 0), dv o30, none, none]) (S' := []) (fun _ _ => rfl) ?_
        obtain ⟨r, hr, h⟩ := bnd h
        have hX : (fun (r : DT) => ∀ (o58 : Option (Sum Int Nat)) (o59 : Option (Sum Int Nat)) (o60 : Option (Sum Int Nat)) (o61 : Option (Sum Int Nat)), EvF mtab d k_X12_laysClusters 257 [some (.inr (.inr 187)), dv o58, dv o59, dv o60, dv o61] [] (SH L0, r) (none, (SH L0, t0))) r := by
          obtain ⟨D62, hre⟩ : ∃ q, q = r := ⟨r, rfl⟩
          subst hre
          intro o58 o59 o60 o61
          show EvF mtab d k_X12_laysClusters 257 [some (.inr (.inr 187)), dv o58, dv o59, dv o60, dv o61] [] (SH L0, D62) (none, (SH L0, t0))
          cases h
          exact ev_ret 1 (fun _ _ => rfl)
        clear h
        refine ev_go 1 (pc' := 169) (L' := [some (.inr (.inr 187)), some (.inl 0), some (.inl x39), none, none]) (S' := []) (σ' := (SH L0, dput D38 187 23 0)) (fun _ _ => rfl) ?_
        refine loop_ind (P := fun s => ∀ (o42 : Option (Sum Int Nat)) (o43 : Option (Sum Int Nat)), EvF mtab d k_X12_laysClusters 169 [some (.inr (.inr 187)), some (.inl s.1), some (.inl s.2.1), dv o42, dv o43] [] (SH L0, s.2.2) (none, (SH L0, t0))) (X := fun r => ∀ (o58 : Option (Sum Int Nat)) (o59 : Option (Sum Int Nat)) (o60 : Option (Sum Int Nat)) (o61 : Option (Sum Int Nat)), EvF mtab d k_X12_laysClusters 257 [some (.inr (.inr 187)), dv o58, dv o59, dv o60, dv o61] [] (SH L0, r) (none, (SH L0, t0))) hr hX ?_ none none
        clear hr hX
        intro s t hb hK0
        obtain ⟨l1_40, l2_41, D44⟩ := s
        intro o42 o43
        show EvF mtab d k_X12_laysClusters 169 [some (.inr (.inr 187)), some (.inl l1_40), some (.inl l2_41), dv o42, dv o43] [] (SH L0, D44) (none, (SH L0, t0))
        unfold b_X12_laysClusters_169 at hb
        rcases ite_or hb with ⟨hc, hb⟩ | ⟨hc, hb⟩
        · refine ev_ift hc 2 (pc' := 257) (L' := [some (.inr (.inr 187)), some (.inl l1_40), some (.inl l2_41), dv o42, dv o43]) (S' := []) (σ' := (SH L0, D44)) (fun _ _ => rfl) ?_
          cases hb
          exact hK0 (some (.inl l1_40)) (some (.inl l2_41)) o42 o43
        · refine ev_iff hc 2 (pc' := 173) (L' := [some (.inr (.inr 187)), some (.inl l1_40), some (.inl l2_41), dv o42, dv o43]) (S' := []) (σ' := (SH L0, D44)) (fun _ _ => rfl) ?_
          obtain ⟨x45, hx, hb⟩ := bnd hb
          refine ev_call (e_X12_manyIn L0 d (by omega) hx) 3 (pc' := 178) (L' := [some (.inr (.inr 187)), some (.inl l1_40), some (.inl l2_41), dv o42, dv o43]) (S' := []) (fun _ _ => rfl) ?_
          obtain ⟨r, hr, hb⟩ := bnd hb
          have hX : (fun (r : DT) => ∀ (o55 : Option (Sum Int Nat)), EvF mtab d k_X12_laysClusters 235 [some (.inr (.inr 187)), some (.inl l1_40), some (.inl l2_41), some (.inl x45), dv o55] [] (SH L0, r) (none, (SH L0, t0))) r := by
            obtain ⟨D56, hre⟩ : ∃ q, q = r := ⟨r, rfl⟩
            subst hre
            intro o55
            show EvF mtab d k_X12_laysClusters 235 [some (.inr (.inr 187)), some (.inl l1_40), some (.inl l2_41), some (.inl x45), dv o55] [] (SH L0, D56) (none, (SH L0, t0))
            obtain ⟨x57, hx, hb⟩ := bnd hb
            refine ev_call (e_X12_nextCluster L0 d (by omega) hx) 12 (pc' := 253) (L' := [some (.inr (.inr 187)), some (.inl (w32 (l1_40 + x45))), some (.inl l2_41), some (.inl x45), dv o55]) (S' := []) (fun _ _ => rfl) ?_
            cases hb
            exact ev_go 2 (pc' := 169) (L' := [some (.inr (.inr 187)), some (.inl (w32 (l1_40 + x45))), some (.inl x57), some (.inl x45), dv o55]) (S' := []) (σ' := (SH L0, dput D56 187 23 (w32 ((D56 187 23) + 1)))) (fun _ _ => rfl) (hK0 (some (.inl x45)) o55)
          clear hb
          refine ev_go 3 (pc' := 182) (L' := [some (.inr (.inr 187)), some (.inl l1_40), some (.inl l2_41), some (.inl x45), some (.inl 0)]) (S' := []) (σ' := (SH L0, D44)) (fun _ _ => rfl) ?_
          refine loop_ind (P := fun s => EvF mtab d k_X12_laysClusters 182 [some (.inr (.inr 187)), some (.inl l1_40), some (.inl l2_41), some (.inl x45), some (.inl s.1)] [] (SH L0, s.2) (none, (SH L0, t0))) (X := fun r => ∀ (o55 : Option (Sum Int Nat)), EvF mtab d k_X12_laysClusters 235 [some (.inr (.inr 187)), some (.inl l1_40), some (.inl l2_41), some (.inl x45), dv o55] [] (SH L0, r) (none, (SH L0, t0))) hr hX ?_
          clear hr hX
          intro s t hb hK1
          obtain ⟨l4_46, D47⟩ := s
          show EvF mtab d k_X12_laysClusters 182 [some (.inr (.inr 187)), some (.inl l1_40), some (.inl l2_41), some (.inl x45), some (.inl l4_46)] [] (SH L0, D47) (none, (SH L0, t0))
          unfold b_X12_laysClusters_182 at hb
          obtain ⟨x48, hx, hb⟩ := bnd hb
          refine ev_call (e_X12_funs L0 d (by omega) hx) 3 (pc' := 188) (L' := [some (.inr (.inr 187)), some (.inl l1_40), some (.inl l2_41), some (.inl x45), some (.inl l4_46)]) (S' := [.inl l4_46]) (fun _ _ => rfl) ?_
          rcases ite_or hb with ⟨hc, hb⟩ | ⟨hc, hb⟩
          · refine ev_ift hc 1 (pc' := 191) (L' := [some (.inr (.inr 187)), some (.inl l1_40), some (.inl l2_41), some (.inl x45), some (.inl l4_46)]) (S' := []) (σ' := (SH L0, D47)) (fun _ _ => rfl) ?_
            obtain ⟨x49, hx, hb⟩ := bnd hb
            refine ev_bind hx 4 (pc' := 198) (L' := fun x49 => [some (.inr (.inr 187)), some (.inl l1_40), some (.inl l2_41), some (.inl x45), some (.inl l4_46)]) (S' := fun x49 => [.inl x49]) (σ' := fun x49 => (SH L0, D47)) (fun _ _ => rfl) ?_
            obtain ⟨D54, hv, hb⟩ := bnd hb
            have hJ : EvF mtab d k_X12_laysClusters 229 [some (.inr (.inr 187)), some (.inl l1_40), some (.inl l2_41), some (.inl x45), some (.inl l4_46)] [] (SH L0, D54) (none, (SH L0, t0)) := by
              cases hb
              exact ev_go 2 (pc' := 182) (L' := [some (.inr (.inr 187)), some (.inl l1_40), some (.inl l2_41), some (.inl x45), some (.inl (w32 (l4_46 + 1)))]) (S' := []) (σ' := (SH L0, D54)) (fun _ _ => rfl) hK1
            clear hb
            rcases ite_or hv with ⟨hc, hv⟩ | ⟨hc, hv⟩
            · refine ev_ift hc 2 (pc' := 205) (L' := [some (.inr (.inr 187)), some (.inl l1_40), some (.inl l2_41), some (.inl x45), some (.inl l4_46)]) (S' := []) (σ' := (SH L0, D47)) (fun _ _ => rfl) ?_
              obtain ⟨x50, hx, hv⟩ := bnd hv
              refine ev_bind hx 7 (pc' := 217) (L' := fun x50 => [some (.inr (.inr 187)), some (.inl l1_40), some (.inl l2_41), some (.inl x45), some (.inl l4_46)]) (S' := fun x50 => [.inl x50, .inl l1_40, .inr (.inr 206)]) (σ' := fun x50 => (SH L0, D47)) (fun _ _ => rfl) ?_
              obtain ⟨D51, hx, hv⟩ := bnd hv
              refine ev_bind hx 3 (pc' := 221) (L' := fun D51 => [some (.inr (.inr 187)), some (.inl l1_40), some (.inl l2_41), some (.inl x45), some (.inl l4_46)]) (S' := fun D51 => []) (σ' := fun D51 => (SH L0, D51)) (fun _ _ => rfl) ?_
              obtain ⟨x52, hx, hv⟩ := bnd hv
              obtain ⟨D53, hy, hv⟩ := bnd hv
              refine ev_bind2 (Y := fun x52 => awr D51 208 8 l4_46 x52) hx hy 5 (pc' := 229) (L' := fun x52 D53 => [some (.inr (.inr 187)), some (.inl l1_40), some (.inl l2_41), some (.inl x45), some (.inl l4_46)]) (S' := fun x52 D53 => []) (σ' := fun x52 D53 => (SH L0, D53)) (fun _ _ => rfl) ?_
              have he0 := Option.some.inj hv
              subst he0
              exact hJ
            · refine ev_iff hc 2 (pc' := 202) (L' := [some (.inr (.inr 187)), some (.inl l1_40), some (.inl l2_41), some (.inl x45), some (.inl l4_46)]) (S' := []) (σ' := (SH L0, D47)) (fun _ _ => rfl) ?_
              have he0 := Option.some.inj hv
              subst he0
              exact ev_go 1 (pc' := 229) (L' := [some (.inr (.inr 187)), some (.inl l1_40), some (.inl l2_41), some (.inl x45), some (.inl l4_46)]) (S' := []) (σ' := (SH L0, D47)) (fun _ _ => rfl) hJ
          · refine ev_iff hc 1 (pc' := 235) (L' := [some (.inr (.inr 187)), some (.inl l1_40), some (.inl l2_41), some (.inl x45), some (.inl l4_46)]) (S' := []) (σ' := (SH L0, D47)) (fun _ _ => rfl) ?_
            cases hb
            exact hK1 (some (.inl l4_46))
      clear h
      refine ev_go 2 (pc' := 136) (L' := [some (.inr (.inr 187)), some (.inl 0), dv o30, none, none]) (S' := []) (σ' := (SH L0, D31)) (fun _ _ => rfl) ?_
      refine loop_ind (P := fun s => EvF mtab d k_X12_laysClusters 136 [some (.inr (.inr 187)), some (.inl s.1), dv o30, none, none] [] (SH L0, s.2) (none, (SH L0, t0))) (X := fun r => ∀ (o37 : Option (Sum Int Nat)), EvF mtab d k_X12_laysClusters 157 [some (.inr (.inr 187)), dv o37, dv o30, none, none] [] (SH L0, r) (none, (SH L0, t0))) hr hX ?_
      clear hr hX
      intro s t hb hK0
      obtain ⟨l1_32, D33⟩ := s
      show EvF mtab d k_X12_laysClusters 136 [some (.inr (.inr 187)), some (.inl l1_32), dv o30, none, none] [] (SH L0, D33) (none, (SH L0, t0))
      unfold b_X12_laysClusters_136 at hb
      obtain ⟨x34, hx, hb⟩ := bnd hb
      refine ev_call (e_X12_funs L0 d (by omega) hx) 3 (pc' := 141) (L' := [some (.inr (.inr 187)), some (.inl l1_32), dv o30, none, none]) (S' := [.inl l1_32]) (fun _ _ => rfl) ?_
      rcases ite_or hb with ⟨hc, hb⟩ | ⟨hc, hb⟩
      · refine ev_ift hc 1 (pc' := 144) (L' := [some (.inr (.inr 187)), some (.inl l1_32), dv o30, none, none]) (S' := []) (σ' := (SH L0, D33)) (fun _ _ => rfl) ?_
        obtain ⟨x35, hx, hb⟩ := bnd hb
        obtain ⟨D36, hy, hb⟩ := bnd hb
        refine ev_bind2 (Y := fun x35 => awr D33 208 8 l1_32 x35) hx hy 5 (pc' := 151) (L' := fun x35 D36 => [some (.inr (.inr 187)), some (.inl l1_32), dv o30, none, none]) (S' := fun x35 D36 => []) (σ' := fun x35 D36 => (SH L0, D36)) (fun _ _ => rfl) ?_
        cases hb
        exact ev_go 2 (pc' := 136) (L' := [some (.inr (.inr 187)), some (.inl (w32 (l1_32 + 1))), dv o30, none, none]) (S' := []) (σ' := (SH L0, D36)) (fun _ _ => rfl) hK0
      · refine ev_iff hc 1 (pc' := 157) (L' := [some (.inr (.inr 187)), some (.inl l1_32), dv o30, none, none]) (S' := []) (σ' := (SH L0, D33)) (fun _ _ => rfl) ?_
        cases hb
        exact hK0 (some (.inl l1_32))
    clear h
    refine ev_go 1 (pc' := 53) (L' := [some (.inr (.inr 187)), some (.inl x12), none, none, none]) (S' := []) (σ' := (SH L0, D11)) (fun _ _ => rfl) ?_
    refine loop_ind (P := fun s => ∀ (o14 : Option (Sum Int Nat)), EvF mtab d k_X12_laysClusters 53 [some (.inr (.inr 187)), some (.inl s.1), dv o14, none, none] [] (SH L0, s.2) (none, (SH L0, t0))) (X := fun r => ∀ (o29 : Option (Sum Int Nat)) (o30 : Option (Sum Int Nat)), EvF mtab d k_X12_laysClusters 134 [some (.inr (.inr 187)), dv o29, dv o30, none, none] [] (SH L0, r) (none, (SH L0, t0))) hr hX ?_ none
    clear hr hX
    intro s t hb hK0
    obtain ⟨l1_13, D15⟩ := s
    intro o14
    show EvF mtab d k_X12_laysClusters 53 [some (.inr (.inr 187)), some (.inl l1_13), dv o14, none, none] [] (SH L0, D15) (none, (SH L0, t0))
    unfold b_X12_laysClusters_53 at hb
    rcases ite_or hb with ⟨hc, hb⟩ | ⟨hc, hb⟩
    · refine ev_ift hc 2 (pc' := 134) (L' := [some (.inr (.inr 187)), some (.inl l1_13), dv o14, none, none]) (S' := []) (σ' := (SH L0, D15)) (fun _ _ => rfl) ?_
      cases hb
      exact hK0 (some (.inl l1_13)) o14
    · refine ev_iff hc 2 (pc' := 57) (L' := [some (.inr (.inr 187)), some (.inl l1_13), dv o14, none, none]) (S' := []) (σ' := (SH L0, D15)) (fun _ _ => rfl) ?_
      obtain ⟨x16, hx, hb⟩ := bnd hb
      obtain ⟨D17, hy, hb⟩ := bnd hb
      refine ev_bind2 (Y := fun x16 => awr D15 208 8 l1_13 x16) hx hy 5 (pc' := 64) (L' := fun x16 D17 => [some (.inr (.inr 187)), some (.inl l1_13), dv o14, none, none]) (S' := fun x16 D17 => []) (σ' := fun x16 D17 => (SH L0, D17)) (fun _ _ => rfl) ?_
      obtain ⟨x18, hx, hb⟩ := bnd hb
      refine ev_bind hx 4 (pc' := 70) (L' := fun x18 => [some (.inr (.inr 187)), some (.inl l1_13), dv o14, none, none]) (S' := fun x18 => [.inl x18]) (σ' := fun x18 => (SH L0, D17)) (fun _ _ => rfl) ?_
      obtain ⟨D27, hv, hb⟩ := bnd hb
      have hJ : EvF mtab d k_X12_laysClusters 126 [some (.inr (.inr 187)), some (.inl l1_13), some (.inl x18), none, none] [] (SH L0, D27) (none, (SH L0, t0)) := by
        obtain ⟨x28, hx, hb⟩ := bnd hb
        refine ev_call (e_X12_hottest L0 d (by omega) hx) 2 (pc' := 130) (L' := [some (.inr (.inr 187)), some (.inl l1_13), some (.inl x18), none, none]) (S' := []) (fun _ _ => rfl) ?_
        cases hb
        exact ev_go 2 (pc' := 53) (L' := [some (.inr (.inr 187)), some (.inl x28), some (.inl x18), none, none]) (S' := []) (σ' := (SH L0, D27)) (fun _ _ => rfl) (hK0 (some (.inl x18)))
      clear hb
      rcases ite_or hv with ⟨hc, hv⟩ | ⟨hc, hv⟩
      · refine ev_ift hc 3 (pc' := 126) (L' := [some (.inr (.inr 187)), some (.inl l1_13), some (.inl x18), none, none]) (S' := []) (σ' := (SH L0, D17)) (fun _ _ => rfl) ?_
        have he0 := Option.some.inj hv
        subst he0
        exact hJ
      · refine ev_iff hc 3 (pc' := 75) (L' := [some (.inr (.inr 187)), some (.inl l1_13), some (.inl x18), none, none]) (S' := []) (σ' := (SH L0, D17)) (fun _ _ => rfl) ?_
        obtain ⟨x19, hx, hv⟩ := bnd hv
        refine ev_bind hx 4 (pc' := 81) (L' := fun x19 => [some (.inr (.inr 187)), some (.inl l1_13), some (.inl x18), none, none]) (S' := fun x19 => [.inl x19]) (σ' := fun x19 => (SH L0, D17)) (fun _ _ => rfl) ?_
        obtain ⟨x20, hx, hv⟩ := bnd hv
        refine ev_bind hx 4 (pc' := 87) (L' := fun x20 => [some (.inr (.inr 187)), some (.inl l1_13), some (.inl x18), none, none]) (S' := fun x20 => [.inl x20, .inl x19]) (σ' := fun x20 => (SH L0, D17)) (fun _ _ => rfl) ?_
        rcases ite_or hv with ⟨hc, hv⟩ | ⟨hc, hv⟩
        · refine ev_ift hc 1 (pc' := 126) (L' := [some (.inr (.inr 187)), some (.inl l1_13), some (.inl x18), none, none]) (S' := []) (σ' := (SH L0, D17)) (fun _ _ => rfl) ?_
          have he0 := Option.some.inj hv
          subst he0
          exact hJ
        · refine ev_iff hc 1 (pc' := 90) (L' := [some (.inr (.inr 187)), some (.inl l1_13), some (.inl x18), none, none]) (S' := []) (σ' := (SH L0, D17)) (fun _ _ => rfl) ?_
          obtain ⟨x21, hx, hv⟩ := bnd hv
          refine ev_bind hx 5 (pc' := 97) (L' := fun x21 => [some (.inr (.inr 187)), some (.inl l1_13), some (.inl x18), none, none]) (S' := fun x21 => [.inl x21, .inr (.inr 187)]) (σ' := fun x21 => (SH L0, D17)) (fun _ _ => rfl) ?_
          obtain ⟨x22, hx, hv⟩ := bnd hv
          refine ev_call (e_X12_sizesIn L0 d (by omega) hx) 1 (pc' := 100) (L' := [some (.inr (.inr 187)), some (.inl l1_13), some (.inl x18), none, none]) (S' := []) (fun _ _ => rfl) ?_
          obtain ⟨x23, hx, hv⟩ := bnd hv
          refine ev_bind hx 5 (pc' := 107) (L' := fun x23 => [some (.inr (.inr 187)), some (.inl l1_13), some (.inl x18), none, none]) (S' := fun x23 => [.inl x23, .inr (.inr 187), .inl x22]) (σ' := fun x23 => (SH L0, D17)) (fun _ _ => rfl) ?_
          obtain ⟨x24, hx, hv⟩ := bnd hv
          refine ev_call (e_X12_sizesIn L0 d (by omega) hx) 1 (pc' := 110) (L' := [some (.inr (.inr 187)), some (.inl l1_13), some (.inl x18), none, none]) (S' := [.inl x22]) (fun _ _ => rfl) ?_
          obtain ⟨x25, hx, hv⟩ := bnd hv
          refine ev_bind hx 5 (pc' := 117) (L' := fun x25 => [some (.inr (.inr 187)), some (.inl l1_13), some (.inl x18), none, none]) (S' := fun x25 => [.inl x25, .inl (w32 (x22 + x24))]) (σ' := fun x25 => (SH L0, D17)) (fun _ _ => rfl) ?_
          rcases ite_or hv with ⟨hc, hv⟩ | ⟨hc, hv⟩
          · refine ev_ift hc 1 (pc' := 126) (L' := [some (.inr (.inr 187)), some (.inl l1_13), some (.inl x18), none, none]) (S' := []) (σ' := (SH L0, D17)) (fun _ _ => rfl) ?_
            have he0 := Option.some.inj hv
            subst he0
            exact hJ
          · refine ev_iff hc 1 (pc' := 120) (L' := [some (.inr (.inr 187)), some (.inl l1_13), some (.inl x18), none, none]) (S' := []) (σ' := (SH L0, D17)) (fun _ _ => rfl) ?_
            obtain ⟨D26, hx, hv⟩ := bnd hv
            refine ev_call (e_X12_joins L0 d (by omega) hx) 4 (pc' := 126) (L' := [some (.inr (.inr 187)), some (.inl l1_13), some (.inl x18), none, none]) (S' := []) (fun _ _ => rfl) ?_
            have he0 := Option.some.inj hv
            subst he0
            exact hJ
  clear h
  refine ev_go 2 (pc' := 2) (L' := [some (.inr (.inr 187)), some (.inl 0), none, none, none]) (S' := []) (σ' := (SH L0, D)) (fun _ _ => rfl) ?_
  refine loop_ind (P := fun s => EvF mtab d k_X12_laysClusters 2 [some (.inr (.inr 187)), some (.inl s.1), none, none, none] [] (SH L0, s.2) (none, (SH L0, t0))) (X := fun r => ∀ (o10 : Option (Sum Int Nat)), EvF mtab d k_X12_laysClusters 48 [some (.inr (.inr 187)), dv o10, none, none, none] [] (SH L0, r) (none, (SH L0, t0))) hr hX ?_
  clear hr hX
  intro s t hb hK0
  obtain ⟨l1_1, D2⟩ := s
  show EvF mtab d k_X12_laysClusters 2 [some (.inr (.inr 187)), some (.inl l1_1), none, none, none] [] (SH L0, D2) (none, (SH L0, t0))
  unfold b_X12_laysClusters_2 at hb
  obtain ⟨x3, hx, hb⟩ := bnd hb
  refine ev_call (e_X12_funs L0 d (by omega) hx) 3 (pc' := 7) (L' := [some (.inr (.inr 187)), some (.inl l1_1), none, none, none]) (S' := [.inl l1_1]) (fun _ _ => rfl) ?_
  rcases ite_or hb with ⟨hc, hb⟩ | ⟨hc, hb⟩
  · refine ev_ift hc 1 (pc' := 10) (L' := [some (.inr (.inr 187)), some (.inl l1_1), none, none, none]) (S' := []) (σ' := (SH L0, D2)) (fun _ _ => rfl) ?_
    obtain ⟨D4, hx, hb⟩ := bnd hb
    refine ev_bind hx 5 (pc' := 17) (L' := fun D4 => [some (.inr (.inr 187)), some (.inl l1_1), none, none, none]) (S' := fun D4 => []) (σ' := fun D4 => (SH L0, D4)) (fun _ _ => rfl) ?_
    obtain ⟨D5, hx, hb⟩ := bnd hb
    refine ev_bind hx 5 (pc' := 24) (L' := fun D5 => [some (.inr (.inr 187)), some (.inl l1_1), none, none, none]) (S' := fun D5 => []) (σ' := fun D5 => (SH L0, D5)) (fun _ _ => rfl) ?_
    obtain ⟨x6, hx, hb⟩ := bnd hb
    obtain ⟨D7, hy, hb⟩ := bnd hb
    refine ev_bind2 (Y := fun x6 => awr D5 208 8 l1_1 x6) hx hy 5 (pc' := 31) (L' := fun x6 D7 => [some (.inr (.inr 187)), some (.inl l1_1), none, none, none]) (S' := fun x6 D7 => []) (σ' := fun x6 D7 => (SH L0, D7)) (fun _ _ => rfl) ?_
    obtain ⟨x8, hx, hb⟩ := bnd hb
    refine ev_call (e_X12_callerOf L0 d (by omega) hx) 6 (pc' := 41) (L' := [some (.inr (.inr 187)), some (.inl l1_1), none, none, none]) (S' := [.inl l1_1, .inr (.inr 204)]) (fun _ _ => rfl) ?_
    obtain ⟨D9, hx, hb⟩ := bnd hb
    refine ev_bind hx 1 (pc' := 42) (L' := fun D9 => [some (.inr (.inr 187)), some (.inl l1_1), none, none, none]) (S' := fun D9 => []) (σ' := fun D9 => (SH L0, D9)) (fun _ _ => rfl) ?_
    cases hb
    exact ev_go 2 (pc' := 2) (L' := [some (.inr (.inr 187)), some (.inl (w32 (l1_1 + 1))), none, none, none]) (S' := []) (σ' := (SH L0, D9)) (fun _ _ => rfl) hK0
  · refine ev_iff hc 1 (pc' := 48) (L' := [some (.inr (.inr 187)), some (.inl l1_1), none, none, none]) (S' := []) (σ' := (SH L0, D2)) (fun _ _ => rfl) ?_
    cases hb
    exact hK0 (some (.inl l1_1))
set_option maxRecDepth 100000 in
set_option maxHeartbeats 4000000 in
theorem e_X12_traceAt (L0 d : Nat) (hd : 1 ≤ d) {p1 : Int} {D : DT} {t0 : Int} (h : m_X12_traceAt p1 D = some t0) : Ret mtab d 209 [.inr (.inr 187), .inl p1] (SH L0, D) (some (.inl t0), (SH L0, D)) := by
  obtain ⟨d, rfl⟩ : ∃ e, d = e + 1 := ⟨d - 1, by omega⟩
  refine Ret.of (code := k_X12_traceAt) (ml := 3) rfl ?_
  show EvF mtab d k_X12_traceAt 0 [some (.inr (.inr 187)), some (.inl p1), none] [] (SH L0, D) (some (.inl t0), (SH L0, D))
  unfold m_X12_traceAt at h
  obtain ⟨r, hr, h⟩ := bnd h
  have hX : (fun (r : (Int ⊕ Unit)) => match r with | .inl r => (EvF mtab d k_X12_traceAt 27 [some (.inr (.inr 187)), some (.inl p1), some (.inl r)] [] (SH L0, D) (some (.inl t0), (SH L0, D))) | .inr r => (∀ (o5 : Option (Sum Int Nat)), EvF mtab d k_X12_traceAt 35 [some (.inr (.inr 187)), some (.inl p1), dv o5] [] (SH L0, D) (some (.inl t0), (SH L0, D)))) r := by
    rcases r with r | r
    · skip
      obtain ⟨l2_4, hre⟩ : ∃ q, q = r := ⟨r, rfl⟩
      subst hre
      show EvF mtab d k_X12_traceAt 27 [some (.inr (.inr 187)), some (.inl p1), some (.inl l2_4)] [] (SH L0, D) (some (.inl t0), (SH L0, D))
      cases h
      exact ev_ret 2 (fun _ _ => rfl)
    intro o5
    show EvF mtab d k_X12_traceAt 35 [some (.inr (.inr 187)), some (.inl p1), dv o5] [] (SH L0, D) (some (.inl t0), (SH L0, D))
    cases h
    exact ev_ret 2 (fun _ _ => rfl)
  clear h
  refine ev_go 2 (pc' := 2) (L' := [some (.inr (.inr 187)), some (.inl p1), some (.inl 0)]) (S' := []) (σ' := (SH L0, D)) (fun _ _ => rfl) ?_
  refine loop_ind (P := fun s => EvF mtab d k_X12_traceAt 2 [some (.inr (.inr 187)), some (.inl p1), some (.inl s)] [] (SH L0, D) (some (.inl t0), (SH L0, D))) (X := fun r => match r with | .inl r => (EvF mtab d k_X12_traceAt 27 [some (.inr (.inr 187)), some (.inl p1), some (.inl r)] [] (SH L0, D) (some (.inl t0), (SH L0, D))) | .inr r => (∀ (o5 : Option (Sum Int Nat)), EvF mtab d k_X12_traceAt 35 [some (.inr (.inr 187)), some (.inl p1), dv o5] [] (SH L0, D) (some (.inl t0), (SH L0, D)))) hr hX ?_
  clear hr hX
  intro s t hb hK0
  obtain ⟨l2_1, hre⟩ : ∃ q, q = s := ⟨s, rfl⟩
  subst hre
  show EvF mtab d k_X12_traceAt 2 [some (.inr (.inr 187)), some (.inl p1), some (.inl l2_1)] [] (SH L0, D) (some (.inl t0), (SH L0, D))
  unfold b_X12_traceAt_2 at hb
  obtain ⟨x2, hx, hb⟩ := bnd hb
  refine ev_bind hx 5 (pc' := 10) (L' := fun x2 => [some (.inr (.inr 187)), some (.inl p1), some (.inl l2_1)]) (S' := fun x2 => [.inl x2, .inl l2_1]) (σ' := fun x2 => (SH L0, D)) (fun _ _ => rfl) ?_
  rcases ite_or hb with ⟨hc, hb⟩ | ⟨hc, hb⟩
  · refine ev_ift hc 1 (pc' := 13) (L' := [some (.inr (.inr 187)), some (.inl p1), some (.inl l2_1)]) (S' := []) (σ' := (SH L0, D)) (fun _ _ => rfl) ?_
    obtain ⟨x3, hx, hb⟩ := bnd hb
    refine ev_bind hx 6 (pc' := 23) (L' := fun x3 => [some (.inr (.inr 187)), some (.inl p1), some (.inl l2_1)]) (S' := fun x3 => [.inl x3]) (σ' := fun x3 => (SH L0, D)) (fun _ _ => rfl) ?_
    rcases ite_or hb with ⟨hc, hb⟩ | ⟨hc, hb⟩
    · refine ev_ift hc 2 (pc' := 27) (L' := [some (.inr (.inr 187)), some (.inl p1), some (.inl l2_1)]) (S' := []) (σ' := (SH L0, D)) (fun _ _ => rfl) ?_
      cases hb
      exact hK0
    · refine ev_iff hc 2 (pc' := 29) (L' := [some (.inr (.inr 187)), some (.inl p1), some (.inl l2_1)]) (S' := []) (σ' := (SH L0, D)) (fun _ _ => rfl) ?_
      cases hb
      exact ev_go 2 (pc' := 2) (L' := [some (.inr (.inr 187)), some (.inl p1), some (.inl (w32 (l2_1 + 1)))]) (S' := []) (σ' := (SH L0, D)) (fun _ _ => rfl) hK0
  · refine ev_iff hc 1 (pc' := 35) (L' := [some (.inr (.inr 187)), some (.inl p1), some (.inl l2_1)]) (S' := []) (σ' := (SH L0, D)) (fun _ _ => rfl) ?_
    cases hb
    exact hK0 (some (.inl l2_1))
set_option maxRecDepth 100000 in
set_option maxHeartbeats 4000000 in
theorem e_X12_laysStart (L0 d : Nat) (hd : 2 ≤ d) {D : DT} {t0 : DT} (h : m_X12_laysStart  D = some t0) : Ret mtab d 210 [.inr (.inr 187)] (SH L0, D) (none, (SH L0, t0)) := by
  obtain ⟨d, rfl⟩ : ∃ e, d = e + 1 := ⟨d - 1, by omega⟩
  refine Ret.of (code := k_X12_laysStart) (ml := 3) rfl ?_
  show EvF mtab d k_X12_laysStart 0 [some (.inr (.inr 187)), none, none] [] (SH L0, D) (none, (SH L0, t0))
  unfold m_X12_laysStart at h
  obtain ⟨r, hr, h⟩ := bnd h
  have hX : (fun (r : (Int × DT)) => ∀ (o8 : Option (Sum Int Nat)), EvF mtab d k_X12_laysStart 40 [some (.inr (.inr 187)), some (.inl r.1), dv o8] [] (SH L0, r.2) (none, (SH L0, t0))) r := by
    obtain ⟨l1_7, D9⟩ := r
    intro o8
    show EvF mtab d k_X12_laysStart 40 [some (.inr (.inr 187)), some (.inl l1_7), dv o8] [] (SH L0, D9) (none, (SH L0, t0))
    obtain ⟨r, hr, h⟩ := bnd h
    have hX : (fun (r : DT) => ∀ (o20 : Option (Sum Int Nat)) (o21 : Option (Sum Int Nat)), EvF mtab d k_X12_laysStart 87 [some (.inr (.inr 187)), dv o20, dv o21] [] (SH L0, r) (none, (SH L0, t0))) r := by
      obtain ⟨D22, hre⟩ : ∃ q, q = r := ⟨r, rfl⟩
      subst hre
      intro o20 o21
      show EvF mtab d k_X12_laysStart 87 [some (.inr (.inr 187)), dv o20, dv o21] [] (SH L0, D22) (none, (SH L0, t0))
      cases h
      exact ev_ret 1 (fun _ _ => rfl)
    clear h
    refine ev_go 2 (pc' := 42) (L' := [some (.inr (.inr 187)), some (.inl l1_7), some (.inl 0)]) (S' := []) (σ' := (SH L0, D9)) (fun _ _ => rfl) ?_
    refine loop_ind (P := fun s => EvF mtab d k_X12_laysStart 42 [some (.inr (.inr 187)), some (.inl s.1), some (.inl s.2.1)] [] (SH L0, s.2.2) (none, (SH L0, t0))) (X := fun r => ∀ (o20 : Option (Sum Int Nat)) (o21 : Option (Sum Int Nat)), EvF mtab d k_X12_laysStart 87 [some (.inr (.inr 187)), dv o20, dv o21] [] (SH L0, r) (none, (SH L0, t0))) hr hX ?_
    clear hr hX
    intro s t hb hK0
    obtain ⟨l1_10, l2_11, D12⟩ := s
    show EvF mtab d k_X12_laysStart 42 [some (.inr (.inr 187)), some (.inl l1_10), some (.inl l2_11)] [] (SH L0, D12) (none, (SH L0, t0))
    unfold b_X12_laysStart_42 at hb
    obtain ⟨x13, hx, hb⟩ := bnd hb
    refine ev_call (e_X12_funs L0 d (by omega) hx) 3 (pc' := 47) (L' := [some (.inr (.inr 187)), some (.inl l1_10), some (.inl l2_11)]) (S' := [.inl l2_11]) (fun _ _ => rfl) ?_
    rcases ite_or hb with ⟨hc, hb⟩ | ⟨hc, hb⟩
    · refine ev_ift hc 1 (pc' := 50) (L' := [some (.inr (.inr 187)), some (.inl l1_10), some (.inl l2_11)]) (S' := []) (σ' := (SH L0, D12)) (fun _ _ => rfl) ?_
      obtain ⟨x14, hx, hb⟩ := bnd hb
      refine ev_bind hx 5 (pc' := 57) (L' := fun x14 => [some (.inr (.inr 187)), some (.inl l1_10), some (.inl l2_11)]) (S' := fun x14 => [.inl x14, .inr (.inr 187)]) (σ' := fun x14 => (SH L0, D12)) (fun _ _ => rfl) ?_
      obtain ⟨x15, hx, hb⟩ := bnd hb
      refine ev_call (e_X12_traceAt L0 d (by omega) hx) 1 (pc' := 60) (L' := [some (.inr (.inr 187)), some (.inl l1_10), some (.inl l2_11)]) (S' := []) (fun _ _ => rfl) ?_
      obtain ⟨⟨l1_18, D19⟩, hv, hb⟩ := bnd hb
      have hJ : EvF mtab d k_X12_laysStart 81 [some (.inr (.inr 187)), some (.inl l1_18), some (.inl l2_11)] [] (SH L0, D19) (none, (SH L0, t0)) := by
        cases hb
        exact ev_go 2 (pc' := 42) (L' := [some (.inr (.inr 187)), some (.inl l1_18), some (.inl (w32 (l2_11 + 1)))]) (S' := []) (σ' := (SH L0, D19)) (fun _ _ => rfl) hK0
      clear hb
      rcases ite_or hv with ⟨hc, hv⟩ | ⟨hc, hv⟩
      · refine ev_ift hc 1 (pc' := 66) (L' := [some (.inr (.inr 187)), some (.inl l1_10), some (.inl l2_11)]) (S' := []) (σ' := (SH L0, D12)) (fun _ _ => rfl) ?_
        obtain ⟨x16, hx, hv⟩ := bnd hv
        refine ev_bind hx 7 (pc' := 77) (L' := fun x16 => [some (.inr (.inr 187)), some (.inl l1_10), some (.inl l2_11)]) (S' := fun x16 => [.inl x16, .inl l1_10, .inr (.inr 207)]) (σ' := fun x16 => (SH L0, D12)) (fun _ _ => rfl) ?_
        obtain ⟨D17, hx, hv⟩ := bnd hv
        refine ev_bind hx 1 (pc' := 78) (L' := fun D17 => [some (.inr (.inr 187)), some (.inl l1_10), some (.inl l2_11)]) (S' := fun D17 => []) (σ' := fun D17 => (SH L0, D17)) (fun _ _ => rfl) ?_
        have he0 := Option.some.inj hv
        obtain ⟨ha0, he1⟩ := Prod.mk.inj he0
        clear he0
        subst ha0
        subst he1
        exact ev_go 1 (pc' := 81) (L' := [some (.inr (.inr 187)), some (.inl (w32 (l1_10 + 1))), some (.inl l2_11)]) (S' := []) (σ' := (SH L0, D17)) (fun _ _ => rfl) hJ
      · refine ev_iff hc 1 (pc' := 63) (L' := [some (.inr (.inr 187)), some (.inl l1_10), some (.inl l2_11)]) (S' := []) (σ' := (SH L0, D12)) (fun _ _ => rfl) ?_
        have he0 := Option.some.inj hv
        obtain ⟨ha0, he1⟩ := Prod.mk.inj he0
        clear he0
        subst ha0
        subst he1
        exact ev_go 1 (pc' := 81) (L' := [some (.inr (.inr 187)), some (.inl l1_10), some (.inl l2_11)]) (S' := []) (σ' := (SH L0, D12)) (fun _ _ => rfl) hJ
    · refine ev_iff hc 1 (pc' := 87) (L' := [some (.inr (.inr 187)), some (.inl l1_10), some (.inl l2_11)]) (S' := []) (σ' := (SH L0, D12)) (fun _ _ => rfl) ?_
      cases hb
      exact hK0 (some (.inl l1_10)) (some (.inl l2_11))
  clear h
  refine ev_go 4 (pc' := 4) (L' := [some (.inr (.inr 187)), some (.inl 0), some (.inl 0)]) (S' := []) (σ' := (SH L0, D)) (fun _ _ => rfl) ?_
  refine loop_ind (P := fun s => EvF mtab d k_X12_laysStart 4 [some (.inr (.inr 187)), some (.inl s.1), some (.inl s.2.1)] [] (SH L0, s.2.2) (none, (SH L0, t0))) (X := fun r => ∀ (o8 : Option (Sum Int Nat)), EvF mtab d k_X12_laysStart 40 [some (.inr (.inr 187)), some (.inl r.1), dv o8] [] (SH L0, r.2) (none, (SH L0, t0))) hr hX ?_
  clear hr hX
  intro s t hb hK0
  obtain ⟨l1_1, l2_2, D3⟩ := s
  show EvF mtab d k_X12_laysStart 4 [some (.inr (.inr 187)), some (.inl l1_1), some (.inl l2_2)] [] (SH L0, D3) (none, (SH L0, t0))
  unfold b_X12_laysStart_4 at hb
  obtain ⟨x4, hx, hb⟩ := bnd hb
  refine ev_bind hx 5 (pc' := 12) (L' := fun x4 => [some (.inr (.inr 187)), some (.inl l1_1), some (.inl l2_2)]) (S' := fun x4 => [.inl x4, .inl l2_2]) (σ' := fun x4 => (SH L0, D3)) (fun _ _ => rfl) ?_
  rcases ite_or hb with ⟨hc, hb⟩ | ⟨hc, hb⟩
  · refine ev_ift hc 1 (pc' := 15) (L' := [some (.inr (.inr 187)), some (.inl l1_1), some (.inl l2_2)]) (S' := []) (σ' := (SH L0, D3)) (fun _ _ => rfl) ?_
    obtain ⟨x5, hx, hb⟩ := bnd hb
    refine ev_bind hx 9 (pc' := 30) (L' := fun x5 => [some (.inr (.inr 187)), some (.inl l1_1), some (.inl l2_2)]) (S' := fun x5 => [.inl x5, .inl l1_1, .inr (.inr 207)]) (σ' := fun x5 => (SH L0, D3)) (fun _ _ => rfl) ?_
    obtain ⟨D6, hx, hb⟩ := bnd hb
    refine ev_bind hx 1 (pc' := 31) (L' := fun D6 => [some (.inr (.inr 187)), some (.inl l1_1), some (.inl l2_2)]) (S' := fun D6 => []) (σ' := fun D6 => (SH L0, D6)) (fun _ _ => rfl) ?_
    cases hb
    exact ev_go 3 (pc' := 4) (L' := [some (.inr (.inr 187)), some (.inl (w32 (l1_1 + 1))), some (.inl (w32 (l2_2 + 1)))]) (S' := []) (σ' := (SH L0, D6)) (fun _ _ => rfl) hK0
  · refine ev_iff hc 1 (pc' := 40) (L' := [some (.inr (.inr 187)), some (.inl l1_1), some (.inl l2_2)]) (S' := []) (σ' := (SH L0, D3)) (fun _ _ => rfl) ?_
    cases hb
    exact hK0 (some (.inl l2_2))
set_option maxRecDepth 100000 in
set_option maxHeartbeats 4000000 in
theorem e_X12_adds (L0 d : Nat) (hd : 2 ≤ d) {p1 p2 p3 : Int} {D : DT} {t0 : (Int × DT)} (h : m_X12_adds p1 p2 p3 D = some t0) : Ret mtab d 211 [.inr (.inr 187), .inl p1, .inl p2, .inl p3] (SH L0, D) (some (.inl t0.1), (SH L0, t0.2)) := by
  obtain ⟨d, rfl⟩ : ∃ e, d = e + 1 := ⟨d - 1, by omega⟩
  refine Ret.of (code := k_X12_adds) (ml := 6) rfl ?_
  show EvF mtab d k_X12_adds 0 [some (.inr (.inr 187)), some (.inl p1), some (.inl p2), some (.inl p3), none, none] [] (SH L0, D) (some (.inl t0.1), (SH L0, t0.2))
  unfold m_X12_adds at h
  obtain ⟨x1, hx, h⟩ := bnd h
  refine ev_bind hx 6 (pc' := 9) (L' := fun x1 => [some (.inr (.inr 187)), some (.inl p1), some (.inl p2), some (.inl p3), some (.inl p1), none]) (S' := fun x1 => [.inl x1]) (σ' := fun x1 => (SH L0, D)) (fun _ _ => rfl) ?_
  obtain ⟨r, hr, h⟩ := bnd h
  have hX : (fun (r : (Int × DT)) => ∀ (o15 : Option (Sum Int Nat)), EvF mtab d k_X12_adds 77 [some (.inr (.inr 187)), some (.inl p1), some (.inl p2), some (.inl p3), some (.inl r.1), dv o15] [] (SH L0, r.2) (some (.inl t0.1), (SH L0, t0.2))) r := by
    obtain ⟨l4_14, D16⟩ := r
    intro o15
    show EvF mtab d k_X12_adds 77 [some (.inr (.inr 187)), some (.inl p1), some (.inl p2), some (.inl p3), some (.inl l4_14), dv o15] [] (SH L0, D16) (some (.inl t0.1), (SH L0, t0.2))
    cases h
    exact ev_ret 2 (fun _ _ => rfl)
  clear h
  refine ev_go 1 (pc' := 11) (L' := [some (.inr (.inr 187)), some (.inl p1), some (.inl p2), some (.inl p3), some (.inl p1), some (.inl x1)]) (S' := []) (σ' := (SH L0, D)) (fun _ _ => rfl) ?_
  refine loop_ind (P := fun s => EvF mtab d k_X12_adds 11 [some (.inr (.inr 187)), some (.inl p1), some (.inl p2), some (.inl p3), some (.inl s.1), some (.inl s.2.1)] [] (SH L0, s.2.2) (some (.inl t0.1), (SH L0, t0.2))) (X := fun r => ∀ (o15 : Option (Sum Int Nat)), EvF mtab d k_X12_adds 77 [some (.inr (.inr 187)), some (.inl p1), some (.inl p2), some (.inl p3), some (.inl r.1), dv o15] [] (SH L0, r.2) (some (.inl t0.1), (SH L0, t0.2))) hr hX ?_
  clear hr hX
  intro s t hb hK0
  obtain ⟨l4_2, l5_3, D4⟩ := s
  show EvF mtab d k_X12_adds 11 [some (.inr (.inr 187)), some (.inl p1), some (.inl p2), some (.inl p3), some (.inl l4_2), some (.inl l5_3)] [] (SH L0, D4) (some (.inl t0.1), (SH L0, t0.2))
  unfold b_X12_adds_11 at hb
  obtain ⟨x5, hx, hb⟩ := bnd hb
  refine ev_call (e_X12_blocks L0 d (by omega) hx) 3 (pc' := 17) (L' := [some (.inr (.inr 187)), some (.inl p1), some (.inl p2), some (.inl p3), some (.inl l4_2), some (.inl l5_3)]) (S' := [.inl l5_3]) (fun _ _ => rfl) ?_
  rcases ite_or hb with ⟨hc, hb⟩ | ⟨hc, hb⟩
  · refine ev_ift hc 1 (pc' := 20) (L' := [some (.inr (.inr 187)), some (.inl p1), some (.inl p2), some (.inl p3), some (.inl l4_2), some (.inl l5_3)]) (S' := []) (σ' := (SH L0, D4)) (fun _ _ => rfl) ?_
    obtain ⟨x6, hx, hb⟩ := bnd hb
    refine ev_bind hx 5 (pc' := 28) (L' := fun x6 => [some (.inr (.inr 187)), some (.inl p1), some (.inl p2), some (.inl p3), some (.inl l4_2), some (.inl l5_3)]) (S' := fun x6 => [.inl x6, .inr (.inr 187)]) (σ' := fun x6 => (SH L0, D4)) (fun _ _ => rfl) ?_
    obtain ⟨x7, hx, hb⟩ := bnd hb
    refine ev_call (e_X12_funOf L0 d (by omega) hx) 1 (pc' := 31) (L' := [some (.inr (.inr 187)), some (.inl p1), some (.inl p2), some (.inl p3), some (.inl l4_2), some (.inl l5_3)]) (S' := []) (fun _ _ => rfl) ?_
    rcases ite_or hb with ⟨hc, hb⟩ | ⟨hc, hb⟩
    · refine ev_ift hc 2 (pc' := 35) (L' := [some (.inr (.inr 187)), some (.inl p1), some (.inl p2), some (.inl p3), some (.inl l4_2), some (.inl l5_3)]) (S' := []) (σ' := (SH L0, D4)) (fun _ _ => rfl) ?_
      obtain ⟨x8, hx, hb⟩ := bnd hb
      refine ev_bind hx 6 (pc' := 46) (L' := fun x8 => [some (.inr (.inr 187)), some (.inl p1), some (.inl p2), some (.inl p3), some (.inl l4_2), some (.inl l5_3)]) (S' := fun x8 => [.inl x8, .inr (.inr 202)]) (σ' := fun x8 => (SH L0, D4)) (fun _ _ => rfl) ?_
      obtain ⟨x9, hx, hb⟩ := bnd hb
      refine ev_bind hx 1 (pc' := 47) (L' := fun x9 => [some (.inr (.inr 187)), some (.inl p1), some (.inl p2), some (.inl p3), some (.inl l4_2), some (.inl l5_3)]) (S' := fun x9 => [.inl x9]) (σ' := fun x9 => (SH L0, D4)) (fun _ _ => rfl) ?_
      obtain ⟨⟨l4_12, D13⟩, hv, hb⟩ := bnd hb
      have hJ : EvF mtab d k_X12_adds 71 [some (.inr (.inr 187)), some (.inl p1), some (.inl p2), some (.inl p3), some (.inl l4_12), some (.inl l5_3)] [] (SH L0, D13) (some (.inl t0.1), (SH L0, t0.2)) := by
        cases hb
        exact ev_go 2 (pc' := 11) (L' := [some (.inr (.inr 187)), some (.inl p1), some (.inl p2), some (.inl p3), some (.inl l4_12), some (.inl (w32 (l5_3 + 1)))]) (S' := []) (σ' := (SH L0, D13)) (fun _ _ => rfl) hK0
      clear hb
      rcases ite_or hv with ⟨hc, hv⟩ | ⟨hc, hv⟩
      · refine ev_ift hc 2 (pc' := 54) (L' := [some (.inr (.inr 187)), some (.inl p1), some (.inl p2), some (.inl p3), some (.inl l4_2), some (.inl l5_3)]) (S' := []) (σ' := (SH L0, D4)) (fun _ _ => rfl) ?_
        obtain ⟨x10, hx, hv⟩ := bnd hv
        refine ev_bind hx 7 (pc' := 67) (L' := fun x10 => [some (.inr (.inr 187)), some (.inl p1), some (.inl p2), some (.inl p3), some (.inl l4_2), some (.inl l5_3)]) (S' := fun x10 => [.inl x10, .inl l4_2, .inr (.inr 209)]) (σ' := fun x10 => (SH L0, D4)) (fun _ _ => rfl) ?_
        obtain ⟨D11, hx, hv⟩ := bnd hv
        refine ev_bind hx 1 (pc' := 68) (L' := fun D11 => [some (.inr (.inr 187)), some (.inl p1), some (.inl p2), some (.inl p3), some (.inl l4_2), some (.inl l5_3)]) (S' := fun D11 => []) (σ' := fun D11 => (SH L0, D11)) (fun _ _ => rfl) ?_
        have he0 := Option.some.inj hv
        obtain ⟨ha0, he1⟩ := Prod.mk.inj he0
        clear he0
        subst ha0
        subst he1
        exact ev_go 1 (pc' := 71) (L' := [some (.inr (.inr 187)), some (.inl p1), some (.inl p2), some (.inl p3), some (.inl (w32 (l4_2 + 1))), some (.inl l5_3)]) (S' := []) (σ' := (SH L0, D11)) (fun _ _ => rfl) hJ
      · refine ev_iff hc 2 (pc' := 51) (L' := [some (.inr (.inr 187)), some (.inl p1), some (.inl p2), some (.inl p3), some (.inl l4_2), some (.inl l5_3)]) (S' := []) (σ' := (SH L0, D4)) (fun _ _ => rfl) ?_
        have he0 := Option.some.inj hv
        obtain ⟨ha0, he1⟩ := Prod.mk.inj he0
        clear he0
        subst ha0
        subst he1
        exact ev_go 1 (pc' := 71) (L' := [some (.inr (.inr 187)), some (.inl p1), some (.inl p2), some (.inl p3), some (.inl l4_2), some (.inl l5_3)]) (S' := []) (σ' := (SH L0, D4)) (fun _ _ => rfl) hJ
    · refine ev_iff hc 2 (pc' := 77) (L' := [some (.inr (.inr 187)), some (.inl p1), some (.inl p2), some (.inl p3), some (.inl l4_2), some (.inl l5_3)]) (S' := []) (σ' := (SH L0, D4)) (fun _ _ => rfl) ?_
      cases hb
      exact hK0 (some (.inl l5_3))
  · refine ev_iff hc 1 (pc' := 77) (L' := [some (.inr (.inr 187)), some (.inl p1), some (.inl p2), some (.inl p3), some (.inl l4_2), some (.inl l5_3)]) (S' := []) (σ' := (SH L0, D4)) (fun _ _ => rfl) ?_
    cases hb
    exact hK0 (some (.inl l5_3))
set_option maxRecDepth 100000 in
set_option maxHeartbeats 4000000 in
theorem e_X12_laysOrder_187_206 (L0 d : Nat) (hd : 3 ≤ d) {p1 : Int} {D : DT} {t0 : DT} (h : m_X12_laysOrder p1 206 D = some t0) : Ret mtab d 212 [.inr (.inr 187), .inl p1, .inr (.inr 206)] (SH L0, D) (none, (SH L0, t0)) := by
  obtain ⟨d, rfl⟩ : ∃ e, d = e + 1 := ⟨d - 1, by omega⟩
  refine Ret.of (code := k_X12_laysOrder) (ml := 5) rfl ?_
  show EvF mtab d k_X12_laysOrder 0 [some (.inr (.inr 187)), some (.inl p1), some (.inr (.inr 206)), none, none] [] (SH L0, D) (none, (SH L0, t0))
  unfold m_X12_laysOrder at h
  obtain ⟨r, hr, h⟩ := bnd h
  have hX : (fun (r : (Int × DT)) => ∀ (o9 : Option (Sum Int Nat)), EvF mtab d k_X12_laysOrder 34 [some (.inr (.inr 187)), some (.inl p1), some (.inr (.inr 206)), some (.inl r.1), dv o9] [] (SH L0, r.2) (none, (SH L0, t0))) r := by
    obtain ⟨l3_8, D10⟩ := r
    intro o9
    show EvF mtab d k_X12_laysOrder 34 [some (.inr (.inr 187)), some (.inl p1), some (.inr (.inr 206)), some (.inl l3_8), dv o9] [] (SH L0, D10) (none, (SH L0, t0))
    obtain ⟨r, hr, h⟩ := bnd h
    have hX : (fun (r : DT) => ∀ (o18 : Option (Sum Int Nat)) (o19 : Option (Sum Int Nat)), EvF mtab d k_X12_laysOrder 63 [some (.inr (.inr 187)), some (.inl p1), some (.inr (.inr 206)), dv o18, dv o19] [] (SH L0, r) (none, (SH L0, t0))) r := by
      obtain ⟨D20, hre⟩ : ∃ q, q = r := ⟨r, rfl⟩
      subst hre
      intro o18 o19
      show EvF mtab d k_X12_laysOrder 63 [some (.inr (.inr 187)), some (.inl p1), some (.inr (.inr 206)), dv o18, dv o19] [] (SH L0, D20) (none, (SH L0, t0))
      cases h
      exact ev_ret 1 (fun _ _ => rfl)
    clear h
    refine ev_go 2 (pc' := 37) (L' := [some (.inr (.inr 187)), some (.inl p1), some (.inr (.inr 206)), some (.inl l3_8), some (.inl 0)]) (S' := []) (σ' := (SH L0, D10)) (fun _ _ => rfl) ?_
    refine loop_ind (P := fun s => EvF mtab d k_X12_laysOrder 37 [some (.inr (.inr 187)), some (.inl p1), some (.inr (.inr 206)), some (.inl s.1), some (.inl s.2.1)] [] (SH L0, s.2.2) (none, (SH L0, t0))) (X := fun r => ∀ (o18 : Option (Sum Int Nat)) (o19 : Option (Sum Int Nat)), EvF mtab d k_X12_laysOrder 63 [some (.inr (.inr 187)), some (.inl p1), some (.inr (.inr 206)), dv o18, dv o19] [] (SH L0, r) (none, (SH L0, t0))) hr hX ?_
    clear hr hX
    intro s t hb hK0
    obtain ⟨l3_11, l4_12, D13⟩ := s
    show EvF mtab d k_X12_laysOrder 37 [some (.inr (.inr 187)), some (.inl p1), some (.inr (.inr 206)), some (.inl l3_11), some (.inl l4_12)] [] (SH L0, D13) (none, (SH L0, t0))
    unfold b_X12_laysOrder_37 at hb
    obtain ⟨x14, hx, hb⟩ := bnd hb
    refine ev_call (e_X12_funs L0 d (by omega) hx) 3 (pc' := 43) (L' := [some (.inr (.inr 187)), some (.inl p1), some (.inr (.inr 206)), some (.inl l3_11), some (.inl l4_12)]) (S' := [.inl l4_12]) (fun _ _ => rfl) ?_
    rcases ite_or hb with ⟨hc, hb⟩ | ⟨hc, hb⟩
    · refine ev_ift hc 1 (pc' := 46) (L' := [some (.inr (.inr 187)), some (.inl p1), some (.inr (.inr 206)), some (.inl l3_11), some (.inl l4_12)]) (S' := []) (σ' := (SH L0, D13)) (fun _ _ => rfl) ?_
      obtain ⟨x15, hx, hb⟩ := bnd hb
      refine ev_bind hx 5 (pc' := 52) (L' := fun x15 => [some (.inr (.inr 187)), some (.inl p1), some (.inr (.inr 206)), some (.inl l3_11), some (.inl l4_12)]) (S' := fun x15 => [.inl x15, .inl l3_11, .inr (.inr 187)]) (σ' := fun x15 => (SH L0, D13)) (fun _ _ => rfl) ?_
      obtain ⟨⟨x16, D17⟩, hx, hb⟩ := bnd hb
      refine ev_call (e_X12_adds L0 d (by omega) hx) 2 (pc' := 56) (L' := [some (.inr (.inr 187)), some (.inl p1), some (.inr (.inr 206)), some (.inl l3_11), some (.inl l4_12)]) (S' := []) (fun _ _ => rfl) ?_
      cases hb
      exact ev_go 3 (pc' := 37) (L' := [some (.inr (.inr 187)), some (.inl p1), some (.inr (.inr 206)), some (.inl x16), some (.inl (w32 (l4_12 + 1)))]) (S' := []) (σ' := (SH L0, D17)) (fun _ _ => rfl) hK0
    · refine ev_iff hc 1 (pc' := 63) (L' := [some (.inr (.inr 187)), some (.inl p1), some (.inr (.inr 206)), some (.inl l3_11), some (.inl l4_12)]) (S' := []) (σ' := (SH L0, D13)) (fun _ _ => rfl) ?_
      cases hb
      exact hK0 (some (.inl l3_11)) (some (.inl l4_12))
  clear h
  refine ev_go 6 (pc' := 8) (L' := [some (.inr (.inr 187)), some (.inl p1), some (.inr (.inr 206)), some (.inl (w32 (40 * p1))), some (.inl 0)]) (S' := []) (σ' := (SH L0, D)) (fun _ _ => rfl) ?_
  refine loop_ind (P := fun s => EvF mtab d k_X12_laysOrder 8 [some (.inr (.inr 187)), some (.inl p1), some (.inr (.inr 206)), some (.inl s.1), some (.inl s.2.1)] [] (SH L0, s.2.2) (none, (SH L0, t0))) (X := fun r => ∀ (o9 : Option (Sum Int Nat)), EvF mtab d k_X12_laysOrder 34 [some (.inr (.inr 187)), some (.inl p1), some (.inr (.inr 206)), some (.inl r.1), dv o9] [] (SH L0, r.2) (none, (SH L0, t0))) hr hX ?_
  clear hr hX
  intro s t hb hK0
  obtain ⟨l3_1, l4_2, D3⟩ := s
  show EvF mtab d k_X12_laysOrder 8 [some (.inr (.inr 187)), some (.inl p1), some (.inr (.inr 206)), some (.inl l3_1), some (.inl l4_2)] [] (SH L0, D3) (none, (SH L0, t0))
  unfold b_X12_laysOrder_8 at hb
  obtain ⟨x4, hx, hb⟩ := bnd hb
  refine ev_call (e_X12_funs L0 d (by omega) hx) 3 (pc' := 14) (L' := [some (.inr (.inr 187)), some (.inl p1), some (.inr (.inr 206)), some (.inl l3_1), some (.inl l4_2)]) (S' := [.inl l4_2]) (fun _ _ => rfl) ?_
  rcases ite_or hb with ⟨hc, hb⟩ | ⟨hc, hb⟩
  · refine ev_ift hc 1 (pc' := 17) (L' := [some (.inr (.inr 187)), some (.inl p1), some (.inr (.inr 206)), some (.inl l3_1), some (.inl l4_2)]) (S' := []) (σ' := (SH L0, D3)) (fun _ _ => rfl) ?_
    obtain ⟨x5, hx, hb⟩ := bnd hb
    refine ev_bind hx 5 (pc' := 23) (L' := fun x5 => [some (.inr (.inr 187)), some (.inl p1), some (.inr (.inr 206)), some (.inl l3_1), some (.inl l4_2)]) (S' := fun x5 => [.inl x5, .inl l3_1, .inr (.inr 187)]) (σ' := fun x5 => (SH L0, D3)) (fun _ _ => rfl) ?_
    obtain ⟨⟨x6, D7⟩, hx, hb⟩ := bnd hb
    refine ev_call (e_X12_adds L0 d (by omega) hx) 2 (pc' := 27) (L' := [some (.inr (.inr 187)), some (.inl p1), some (.inr (.inr 206)), some (.inl l3_1), some (.inl l4_2)]) (S' := []) (fun _ _ => rfl) ?_
    cases hb
    exact ev_go 3 (pc' := 8) (L' := [some (.inr (.inr 187)), some (.inl p1), some (.inr (.inr 206)), some (.inl x6), some (.inl (w32 (l4_2 + 1)))]) (S' := []) (σ' := (SH L0, D7)) (fun _ _ => rfl) hK0
  · refine ev_iff hc 1 (pc' := 34) (L' := [some (.inr (.inr 187)), some (.inl p1), some (.inr (.inr 206)), some (.inl l3_1), some (.inl l4_2)]) (S' := []) (σ' := (SH L0, D3)) (fun _ _ => rfl) ?_
    cases hb
    exact hK0 (some (.inl l4_2))
set_option maxRecDepth 100000 in
set_option maxHeartbeats 4000000 in
theorem e_X12_laysOrder_187_207 (L0 d : Nat) (hd : 3 ≤ d) {p1 : Int} {D : DT} {t0 : DT} (h : m_X12_laysOrder p1 207 D = some t0) : Ret mtab d 212 [.inr (.inr 187), .inl p1, .inr (.inr 207)] (SH L0, D) (none, (SH L0, t0)) := by
  obtain ⟨d, rfl⟩ : ∃ e, d = e + 1 := ⟨d - 1, by omega⟩
  refine Ret.of (code := k_X12_laysOrder) (ml := 5) rfl ?_
  show EvF mtab d k_X12_laysOrder 0 [some (.inr (.inr 187)), some (.inl p1), some (.inr (.inr 207)), none, none] [] (SH L0, D) (none, (SH L0, t0))
  unfold m_X12_laysOrder at h
  obtain ⟨r, hr, h⟩ := bnd h
  have hX : (fun (r : (Int × DT)) => ∀ (o9 : Option (Sum Int Nat)), EvF mtab d k_X12_laysOrder 34 [some (.inr (.inr 187)), some (.inl p1), some (.inr (.inr 207)), some (.inl r.1), dv o9] [] (SH L0, r.2) (none, (SH L0, t0))) r := by
    obtain ⟨l3_8, D10⟩ := r
    intro o9
    show EvF mtab d k_X12_laysOrder 34 [some (.inr (.inr 187)), some (.inl p1), some (.inr (.inr 207)), some (.inl l3_8), dv o9] [] (SH L0, D10) (none, (SH L0, t0))
    obtain ⟨r, hr, h⟩ := bnd h
    have hX : (fun (r : DT) => ∀ (o18 : Option (Sum Int Nat)) (o19 : Option (Sum Int Nat)), EvF mtab d k_X12_laysOrder 63 [some (.inr (.inr 187)), some (.inl p1), some (.inr (.inr 207)), dv o18, dv o19] [] (SH L0, r) (none, (SH L0, t0))) r := by
      obtain ⟨D20, hre⟩ : ∃ q, q = r := ⟨r, rfl⟩
      subst hre
      intro o18 o19
      show EvF mtab d k_X12_laysOrder 63 [some (.inr (.inr 187)), some (.inl p1), some (.inr (.inr 207)), dv o18, dv o19] [] (SH L0, D20) (none, (SH L0, t0))
      cases h
      exact ev_ret 1 (fun _ _ => rfl)
    clear h
    refine ev_go 2 (pc' := 37) (L' := [some (.inr (.inr 187)), some (.inl p1), some (.inr (.inr 207)), some (.inl l3_8), some (.inl 0)]) (S' := []) (σ' := (SH L0, D10)) (fun _ _ => rfl) ?_
    refine loop_ind (P := fun s => EvF mtab d k_X12_laysOrder 37 [some (.inr (.inr 187)), some (.inl p1), some (.inr (.inr 207)), some (.inl s.1), some (.inl s.2.1)] [] (SH L0, s.2.2) (none, (SH L0, t0))) (X := fun r => ∀ (o18 : Option (Sum Int Nat)) (o19 : Option (Sum Int Nat)), EvF mtab d k_X12_laysOrder 63 [some (.inr (.inr 187)), some (.inl p1), some (.inr (.inr 207)), dv o18, dv o19] [] (SH L0, r) (none, (SH L0, t0))) hr hX ?_
    clear hr hX
    intro s t hb hK0
    obtain ⟨l3_11, l4_12, D13⟩ := s
    show EvF mtab d k_X12_laysOrder 37 [some (.inr (.inr 187)), some (.inl p1), some (.inr (.inr 207)), some (.inl l3_11), some (.inl l4_12)] [] (SH L0, D13) (none, (SH L0, t0))
    unfold b_X12_laysOrder_37 at hb
    obtain ⟨x14, hx, hb⟩ := bnd hb
    refine ev_call (e_X12_funs L0 d (by omega) hx) 3 (pc' := 43) (L' := [some (.inr (.inr 187)), some (.inl p1), some (.inr (.inr 207)), some (.inl l3_11), some (.inl l4_12)]) (S' := [.inl l4_12]) (fun _ _ => rfl) ?_
    rcases ite_or hb with ⟨hc, hb⟩ | ⟨hc, hb⟩
    · refine ev_ift hc 1 (pc' := 46) (L' := [some (.inr (.inr 187)), some (.inl p1), some (.inr (.inr 207)), some (.inl l3_11), some (.inl l4_12)]) (S' := []) (σ' := (SH L0, D13)) (fun _ _ => rfl) ?_
      obtain ⟨x15, hx, hb⟩ := bnd hb
      refine ev_bind hx 5 (pc' := 52) (L' := fun x15 => [some (.inr (.inr 187)), some (.inl p1), some (.inr (.inr 207)), some (.inl l3_11), some (.inl l4_12)]) (S' := fun x15 => [.inl x15, .inl l3_11, .inr (.inr 187)]) (σ' := fun x15 => (SH L0, D13)) (fun _ _ => rfl) ?_
      obtain ⟨⟨x16, D17⟩, hx, hb⟩ := bnd hb
      refine ev_call (e_X12_adds L0 d (by omega) hx) 2 (pc' := 56) (L' := [some (.inr (.inr 187)), some (.inl p1), some (.inr (.inr 207)), some (.inl l3_11), some (.inl l4_12)]) (S' := []) (fun _ _ => rfl) ?_
      cases hb
      exact ev_go 3 (pc' := 37) (L' := [some (.inr (.inr 187)), some (.inl p1), some (.inr (.inr 207)), some (.inl x16), some (.inl (w32 (l4_12 + 1)))]) (S' := []) (σ' := (SH L0, D17)) (fun _ _ => rfl) hK0
    · refine ev_iff hc 1 (pc' := 63) (L' := [some (.inr (.inr 187)), some (.inl p1), some (.inr (.inr 207)), some (.inl l3_11), some (.inl l4_12)]) (S' := []) (σ' := (SH L0, D13)) (fun _ _ => rfl) ?_
      cases hb
      exact hK0 (some (.inl l3_11)) (some (.inl l4_12))
  clear h
  refine ev_go 6 (pc' := 8) (L' := [some (.inr (.inr 187)), some (.inl p1), some (.inr (.inr 207)), some (.inl (w32 (40 * p1))), some (.inl 0)]) (S' := []) (σ' := (SH L0, D)) (fun _ _ => rfl) ?_
  refine loop_ind (P := fun s => EvF mtab d k_X12_laysOrder 8 [some (.inr (.inr 187)), some (.inl p1), some (.inr (.inr 207)), some (.inl s.1), some (.inl s.2.1)] [] (SH L0, s.2.2) (none, (SH L0, t0))) (X := fun r => ∀ (o9 : Option (Sum Int Nat)), EvF mtab d k_X12_laysOrder 34 [some (.inr (.inr 187)), some (.inl p1), some (.inr (.inr 207)), some (.inl r.1), dv o9] [] (SH L0, r.2) (none, (SH L0, t0))) hr hX ?_
  clear hr hX
  intro s t hb hK0
  obtain ⟨l3_1, l4_2, D3⟩ := s
  show EvF mtab d k_X12_laysOrder 8 [some (.inr (.inr 187)), some (.inl p1), some (.inr (.inr 207)), some (.inl l3_1), some (.inl l4_2)] [] (SH L0, D3) (none, (SH L0, t0))
  unfold b_X12_laysOrder_8 at hb
  obtain ⟨x4, hx, hb⟩ := bnd hb
  refine ev_call (e_X12_funs L0 d (by omega) hx) 3 (pc' := 14) (L' := [some (.inr (.inr 187)), some (.inl p1), some (.inr (.inr 207)), some (.inl l3_1), some (.inl l4_2)]) (S' := [.inl l4_2]) (fun _ _ => rfl) ?_
  rcases ite_or hb with ⟨hc, hb⟩ | ⟨hc, hb⟩
  · refine ev_ift hc 1 (pc' := 17) (L' := [some (.inr (.inr 187)), some (.inl p1), some (.inr (.inr 207)), some (.inl l3_1), some (.inl l4_2)]) (S' := []) (σ' := (SH L0, D3)) (fun _ _ => rfl) ?_
    obtain ⟨x5, hx, hb⟩ := bnd hb
    refine ev_bind hx 5 (pc' := 23) (L' := fun x5 => [some (.inr (.inr 187)), some (.inl p1), some (.inr (.inr 207)), some (.inl l3_1), some (.inl l4_2)]) (S' := fun x5 => [.inl x5, .inl l3_1, .inr (.inr 187)]) (σ' := fun x5 => (SH L0, D3)) (fun _ _ => rfl) ?_
    obtain ⟨⟨x6, D7⟩, hx, hb⟩ := bnd hb
    refine ev_call (e_X12_adds L0 d (by omega) hx) 2 (pc' := 27) (L' := [some (.inr (.inr 187)), some (.inl p1), some (.inr (.inr 207)), some (.inl l3_1), some (.inl l4_2)]) (S' := []) (fun _ _ => rfl) ?_
    cases hb
    exact ev_go 3 (pc' := 8) (L' := [some (.inr (.inr 187)), some (.inl p1), some (.inr (.inr 207)), some (.inl x6), some (.inl (w32 (l4_2 + 1)))]) (S' := []) (σ' := (SH L0, D7)) (fun _ _ => rfl) hK0
  · refine ev_iff hc 1 (pc' := 34) (L' := [some (.inr (.inr 187)), some (.inl p1), some (.inr (.inr 207)), some (.inl l3_1), some (.inl l4_2)]) (S' := []) (σ' := (SH L0, D3)) (fun _ _ => rfl) ?_
    cases hb
    exact hK0 (some (.inl l4_2))
set_option maxRecDepth 100000 in
set_option maxHeartbeats 4000000 in
theorem e_X12_laysOrder_187_211 (L0 d : Nat) (hd : 3 ≤ d) {p1 : Int} {D : DT} {t0 : DT} (h : m_X12_laysOrder p1 211 D = some t0) : Ret mtab d 212 [.inr (.inr 187), .inl p1, .inr (.inr 211)] (SH L0, D) (none, (SH L0, t0)) := by
  obtain ⟨d, rfl⟩ : ∃ e, d = e + 1 := ⟨d - 1, by omega⟩
  refine Ret.of (code := k_X12_laysOrder) (ml := 5) rfl ?_
  show EvF mtab d k_X12_laysOrder 0 [some (.inr (.inr 187)), some (.inl p1), some (.inr (.inr 211)), none, none] [] (SH L0, D) (none, (SH L0, t0))
  unfold m_X12_laysOrder at h
  obtain ⟨r, hr, h⟩ := bnd h
  have hX : (fun (r : (Int × DT)) => ∀ (o9 : Option (Sum Int Nat)), EvF mtab d k_X12_laysOrder 34 [some (.inr (.inr 187)), some (.inl p1), some (.inr (.inr 211)), some (.inl r.1), dv o9] [] (SH L0, r.2) (none, (SH L0, t0))) r := by
    obtain ⟨l3_8, D10⟩ := r
    intro o9
    show EvF mtab d k_X12_laysOrder 34 [some (.inr (.inr 187)), some (.inl p1), some (.inr (.inr 211)), some (.inl l3_8), dv o9] [] (SH L0, D10) (none, (SH L0, t0))
    obtain ⟨r, hr, h⟩ := bnd h
    have hX : (fun (r : DT) => ∀ (o18 : Option (Sum Int Nat)) (o19 : Option (Sum Int Nat)), EvF mtab d k_X12_laysOrder 63 [some (.inr (.inr 187)), some (.inl p1), some (.inr (.inr 211)), dv o18, dv o19] [] (SH L0, r) (none, (SH L0, t0))) r := by
      obtain ⟨D20, hre⟩ : ∃ q, q = r := ⟨r, rfl⟩
      subst hre
      intro o18 o19
      show EvF mtab d k_X12_laysOrder 63 [some (.inr (.inr 187)), some (.inl p1), some (.inr (.inr 211)), dv o18, dv o19] [] (SH L0, D20) (none, (SH L0, t0))
      cases h
      exact ev_ret 1 (fun _ _ => rfl)
    clear h
    refine ev_go 2 (pc' := 37) (L' := [some (.inr (.inr 187)), some (.inl p1), some (.inr (.inr 211)), some (.inl l3_8), some (.inl 0)]) (S' := []) (σ' := (SH L0, D10)) (fun _ _ => rfl) ?_
    refine loop_ind (P := fun s => EvF mtab d k_X12_laysOrder 37 [some (.inr (.inr 187)), some (.inl p1), some (.inr (.inr 211)), some (.inl s.1), some (.inl s.2.1)] [] (SH L0, s.2.2) (none, (SH L0, t0))) (X := fun r => ∀ (o18 : Option (Sum Int Nat)) (o19 : Option (Sum Int Nat)), EvF mtab d k_X12_laysOrder 63 [some (.inr (.inr 187)), some (.inl p1), some (.inr (.inr 211)), dv o18, dv o19] [] (SH L0, r) (none, (SH L0, t0))) hr hX ?_
    clear hr hX
    intro s t hb hK0
    obtain ⟨l3_11, l4_12, D13⟩ := s
    show EvF mtab d k_X12_laysOrder 37 [some (.inr (.inr 187)), some (.inl p1), some (.inr (.inr 211)), some (.inl l3_11), some (.inl l4_12)] [] (SH L0, D13) (none, (SH L0, t0))
    unfold b_X12_laysOrder_37 at hb
    obtain ⟨x14, hx, hb⟩ := bnd hb
    refine ev_call (e_X12_funs L0 d (by omega) hx) 3 (pc' := 43) (L' := [some (.inr (.inr 187)), some (.inl p1), some (.inr (.inr 211)), some (.inl l3_11), some (.inl l4_12)]) (S' := [.inl l4_12]) (fun _ _ => rfl) ?_
    rcases ite_or hb with ⟨hc, hb⟩ | ⟨hc, hb⟩
    · refine ev_ift hc 1 (pc' := 46) (L' := [some (.inr (.inr 187)), some (.inl p1), some (.inr (.inr 211)), some (.inl l3_11), some (.inl l4_12)]) (S' := []) (σ' := (SH L0, D13)) (fun _ _ => rfl) ?_
      obtain ⟨x15, hx, hb⟩ := bnd hb
      refine ev_bind hx 5 (pc' := 52) (L' := fun x15 => [some (.inr (.inr 187)), some (.inl p1), some (.inr (.inr 211)), some (.inl l3_11), some (.inl l4_12)]) (S' := fun x15 => [.inl x15, .inl l3_11, .inr (.inr 187)]) (σ' := fun x15 => (SH L0, D13)) (fun _ _ => rfl) ?_
      obtain ⟨⟨x16, D17⟩, hx, hb⟩ := bnd hb
      refine ev_call (e_X12_adds L0 d (by omega) hx) 2 (pc' := 56) (L' := [some (.inr (.inr 187)), some (.inl p1), some (.inr (.inr 211)), some (.inl l3_11), some (.inl l4_12)]) (S' := []) (fun _ _ => rfl) ?_
      cases hb
      exact ev_go 3 (pc' := 37) (L' := [some (.inr (.inr 187)), some (.inl p1), some (.inr (.inr 211)), some (.inl x16), some (.inl (w32 (l4_12 + 1)))]) (S' := []) (σ' := (SH L0, D17)) (fun _ _ => rfl) hK0
    · refine ev_iff hc 1 (pc' := 63) (L' := [some (.inr (.inr 187)), some (.inl p1), some (.inr (.inr 211)), some (.inl l3_11), some (.inl l4_12)]) (S' := []) (σ' := (SH L0, D13)) (fun _ _ => rfl) ?_
      cases hb
      exact hK0 (some (.inl l3_11)) (some (.inl l4_12))
  clear h
  refine ev_go 6 (pc' := 8) (L' := [some (.inr (.inr 187)), some (.inl p1), some (.inr (.inr 211)), some (.inl (w32 (40 * p1))), some (.inl 0)]) (S' := []) (σ' := (SH L0, D)) (fun _ _ => rfl) ?_
  refine loop_ind (P := fun s => EvF mtab d k_X12_laysOrder 8 [some (.inr (.inr 187)), some (.inl p1), some (.inr (.inr 211)), some (.inl s.1), some (.inl s.2.1)] [] (SH L0, s.2.2) (none, (SH L0, t0))) (X := fun r => ∀ (o9 : Option (Sum Int Nat)), EvF mtab d k_X12_laysOrder 34 [some (.inr (.inr 187)), some (.inl p1), some (.inr (.inr 211)), some (.inl r.1), dv o9] [] (SH L0, r.2) (none, (SH L0, t0))) hr hX ?_
  clear hr hX
  intro s t hb hK0
  obtain ⟨l3_1, l4_2, D3⟩ := s
  show EvF mtab d k_X12_laysOrder 8 [some (.inr (.inr 187)), some (.inl p1), some (.inr (.inr 211)), some (.inl l3_1), some (.inl l4_2)] [] (SH L0, D3) (none, (SH L0, t0))
  unfold b_X12_laysOrder_8 at hb
  obtain ⟨x4, hx, hb⟩ := bnd hb
  refine ev_call (e_X12_funs L0 d (by omega) hx) 3 (pc' := 14) (L' := [some (.inr (.inr 187)), some (.inl p1), some (.inr (.inr 211)), some (.inl l3_1), some (.inl l4_2)]) (S' := [.inl l4_2]) (fun _ _ => rfl) ?_
  rcases ite_or hb with ⟨hc, hb⟩ | ⟨hc, hb⟩
  · refine ev_ift hc 1 (pc' := 17) (L' := [some (.inr (.inr 187)), some (.inl p1), some (.inr (.inr 211)), some (.inl l3_1), some (.inl l4_2)]) (S' := []) (σ' := (SH L0, D3)) (fun _ _ => rfl) ?_
    obtain ⟨x5, hx, hb⟩ := bnd hb
    refine ev_bind hx 5 (pc' := 23) (L' := fun x5 => [some (.inr (.inr 187)), some (.inl p1), some (.inr (.inr 211)), some (.inl l3_1), some (.inl l4_2)]) (S' := fun x5 => [.inl x5, .inl l3_1, .inr (.inr 187)]) (σ' := fun x5 => (SH L0, D3)) (fun _ _ => rfl) ?_
    obtain ⟨⟨x6, D7⟩, hx, hb⟩ := bnd hb
    refine ev_call (e_X12_adds L0 d (by omega) hx) 2 (pc' := 27) (L' := [some (.inr (.inr 187)), some (.inl p1), some (.inr (.inr 211)), some (.inl l3_1), some (.inl l4_2)]) (S' := []) (fun _ _ => rfl) ?_
    cases hb
    exact ev_go 3 (pc' := 8) (L' := [some (.inr (.inr 187)), some (.inl p1), some (.inr (.inr 211)), some (.inl x6), some (.inl (w32 (l4_2 + 1)))]) (S' := []) (σ' := (SH L0, D7)) (fun _ _ => rfl) hK0
  · refine ev_iff hc 1 (pc' := 34) (L' := [some (.inr (.inr 187)), some (.inl p1), some (.inr (.inr 211)), some (.inl l3_1), some (.inl l4_2)]) (S' := []) (σ' := (SH L0, D3)) (fun _ _ => rfl) ?_
    cases hb
    exact hK0 (some (.inl l4_2))
set_option maxRecDepth 100000 in
set_option maxHeartbeats 4000000 in
theorem e_X12_laysSource (L0 d : Nat) (hd : 2 ≤ d) {D : DT} {t0 : DT} (h : m_X12_laysSource  D = some t0) : Ret mtab d 213 [.inr (.inr 187)] (SH L0, D) (none, (SH L0, t0)) := by
  obtain ⟨d, rfl⟩ : ∃ e, d = e + 1 := ⟨d - 1, by omega⟩
  refine Ret.of (code := k_X12_laysSource) (ml := 4) rfl ?_
  show EvF mtab d k_X12_laysSource 0 [some (.inr (.inr 187)), none, none, none] [] (SH L0, D) (none, (SH L0, t0))
  unfold m_X12_laysSource at h
  obtain ⟨r, hr, h⟩ := bnd h
  have hX : (fun (r : DT) => ∀ (o18 : Option (Sum Int Nat)) (o19 : Option (Sum Int Nat)) (o20 : Option (Sum Int Nat)), EvF mtab d k_X12_laysSource 63 [some (.inr (.inr 187)), dv o18, dv o19, dv o20] [] (SH L0, r) (none, (SH L0, t0))) r := by
    obtain ⟨D21, hre⟩ : ∃ q, q = r := ⟨r, rfl⟩
    subst hre
    intro o18 o19 o20
    show EvF mtab d k_X12_laysSource 63 [some (.inr (.inr 187)), dv o18, dv o19, dv o20] [] (SH L0, D21) (none, (SH L0, t0))
    cases h
    exact ev_ret 1 (fun _ _ => rfl)
  clear h
  refine ev_go 4 (pc' := 4) (L' := [some (.inr (.inr 187)), some (.inl 0), some (.inl 0), none]) (S' := []) (σ' := (SH L0, D)) (fun _ _ => rfl) ?_
  refine loop_ind (P := fun s => ∀ (o3 : Option (Sum Int Nat)), EvF mtab d k_X12_laysSource 4 [some (.inr (.inr 187)), some (.inl s.1), some (.inl s.2.1), dv o3] [] (SH L0, s.2.2) (none, (SH L0, t0))) (X := fun r => ∀ (o18 : Option (Sum Int Nat)) (o19 : Option (Sum Int Nat)) (o20 : Option (Sum Int Nat)), EvF mtab d k_X12_laysSource 63 [some (.inr (.inr 187)), dv o18, dv o19, dv o20] [] (SH L0, r) (none, (SH L0, t0))) hr hX ?_ none
  clear hr hX
  intro s t hb hK0
  obtain ⟨l1_1, l2_2, D4⟩ := s
  intro o3
  show EvF mtab d k_X12_laysSource 4 [some (.inr (.inr 187)), some (.inl l1_1), some (.inl l2_2), dv o3] [] (SH L0, D4) (none, (SH L0, t0))
  unfold b_X12_laysSource_4 at hb
  obtain ⟨x5, hx, hb⟩ := bnd hb
  refine ev_call (e_X12_funs L0 d (by omega) hx) 3 (pc' := 9) (L' := [some (.inr (.inr 187)), some (.inl l1_1), some (.inl l2_2), dv o3]) (S' := [.inl l2_2]) (fun _ _ => rfl) ?_
  rcases ite_or hb with ⟨hc, hb⟩ | ⟨hc, hb⟩
  · refine ev_ift hc 1 (pc' := 12) (L' := [some (.inr (.inr 187)), some (.inl l1_1), some (.inl l2_2), dv o3]) (S' := []) (σ' := (SH L0, D4)) (fun _ _ => rfl) ?_
    obtain ⟨D6, hx, hb⟩ := bnd hb
    refine ev_bind hx 5 (pc' := 19) (L' := fun D6 => [some (.inr (.inr 187)), some (.inl l1_1), some (.inl l2_2), dv o3]) (S' := fun D6 => []) (σ' := fun D6 => (SH L0, D6)) (fun _ _ => rfl) ?_
    obtain ⟨r, hr, hb⟩ := bnd hb
    have hX : (fun (r : (Int × DT)) => ∀ (o16 : Option (Sum Int Nat)), EvF mtab d k_X12_laysSource 57 [some (.inr (.inr 187)), some (.inl r.1), some (.inl l2_2), dv o16] [] (SH L0, r.2) (none, (SH L0, t0))) r := by
      obtain ⟨l1_15, D17⟩ := r
      intro o16
      show EvF mtab d k_X12_laysSource 57 [some (.inr (.inr 187)), some (.inl l1_15), some (.inl l2_2), dv o16] [] (SH L0, D17) (none, (SH L0, t0))
      cases hb
      exact ev_go 2 (pc' := 4) (L' := [some (.inr (.inr 187)), some (.inl l1_15), some (.inl (w32 (l2_2 + 1))), dv o16]) (S' := []) (σ' := (SH L0, D17)) (fun _ _ => rfl) (hK0 o16)
    clear hb
    refine ev_go 2 (pc' := 21) (L' := [some (.inr (.inr 187)), some (.inl l1_1), some (.inl l2_2), some (.inl 0)]) (S' := []) (σ' := (SH L0, D6)) (fun _ _ => rfl) ?_
    refine loop_ind (P := fun s => EvF mtab d k_X12_laysSource 21 [some (.inr (.inr 187)), some (.inl s.1), some (.inl l2_2), some (.inl s.2.1)] [] (SH L0, s.2.2) (none, (SH L0, t0))) (X := fun r => ∀ (o16 : Option (Sum Int Nat)), EvF mtab d k_X12_laysSource 57 [some (.inr (.inr 187)), some (.inl r.1), some (.inl l2_2), dv o16] [] (SH L0, r.2) (none, (SH L0, t0))) hr hX ?_
    clear hr hX
    intro s t hb hK1
    obtain ⟨l1_7, l3_8, D9⟩ := s
    show EvF mtab d k_X12_laysSource 21 [some (.inr (.inr 187)), some (.inl l1_7), some (.inl l2_2), some (.inl l3_8)] [] (SH L0, D9) (none, (SH L0, t0))
    unfold b_X12_laysSource_21 at hb
    obtain ⟨x10, hx, hb⟩ := bnd hb
    refine ev_call (e_X12_blocks L0 d (by omega) hx) 3 (pc' := 26) (L' := [some (.inr (.inr 187)), some (.inl l1_7), some (.inl l2_2), some (.inl l3_8)]) (S' := [.inl l3_8]) (fun _ _ => rfl) ?_
    rcases ite_or hb with ⟨hc, hb⟩ | ⟨hc, hb⟩
    · refine ev_ift hc 1 (pc' := 29) (L' := [some (.inr (.inr 187)), some (.inl l1_7), some (.inl l2_2), some (.inl l3_8)]) (S' := []) (σ' := (SH L0, D9)) (fun _ _ => rfl) ?_
      obtain ⟨x11, hx, hb⟩ := bnd hb
      refine ev_call (e_X12_funOf L0 d (by omega) hx) 3 (pc' := 34) (L' := [some (.inr (.inr 187)), some (.inl l1_7), some (.inl l2_2), some (.inl l3_8)]) (S' := []) (fun _ _ => rfl) ?_
      obtain ⟨⟨l1_13, D14⟩, hv, hb⟩ := bnd hb
      have hJ : EvF mtab d k_X12_laysSource 51 [some (.inr (.inr 187)), some (.inl l1_13), some (.inl l2_2), some (.inl l3_8)] [] (SH L0, D14) (none, (SH L0, t0)) := by
        cases hb
        exact ev_go 2 (pc' := 21) (L' := [some (.inr (.inr 187)), some (.inl l1_13), some (.inl l2_2), some (.inl (w32 (l3_8 + 1)))]) (S' := []) (σ' := (SH L0, D14)) (fun _ _ => rfl) hK1
      clear hb
      rcases ite_or hv with ⟨hc, hv⟩ | ⟨hc, hv⟩
      · refine ev_ift hc 2 (pc' := 41) (L' := [some (.inr (.inr 187)), some (.inl l1_7), some (.inl l2_2), some (.inl l3_8)]) (S' := []) (σ' := (SH L0, D9)) (fun _ _ => rfl) ?_
        obtain ⟨D12, hx, hv⟩ := bnd hv
        refine ev_bind hx 5 (pc' := 48) (L' := fun D12 => [some (.inr (.inr 187)), some (.inl l1_7), some (.inl l2_2), some (.inl l3_8)]) (S' := fun D12 => []) (σ' := fun D12 => (SH L0, D12)) (fun _ _ => rfl) ?_
        have he0 := Option.some.inj hv
        obtain ⟨ha0, he1⟩ := Prod.mk.inj he0
        clear he0
        subst ha0
        subst he1
        exact ev_go 1 (pc' := 51) (L' := [some (.inr (.inr 187)), some (.inl (w32 (l1_7 + 1))), some (.inl l2_2), some (.inl l3_8)]) (S' := []) (σ' := (SH L0, D12)) (fun _ _ => rfl) hJ
      · refine ev_iff hc 2 (pc' := 38) (L' := [some (.inr (.inr 187)), some (.inl l1_7), some (.inl l2_2), some (.inl l3_8)]) (S' := []) (σ' := (SH L0, D9)) (fun _ _ => rfl) ?_
        have he0 := Option.some.inj hv
        obtain ⟨ha0, he1⟩ := Prod.mk.inj he0
        clear he0
        subst ha0
        subst he1
        exact ev_go 1 (pc' := 51) (L' := [some (.inr (.inr 187)), some (.inl l1_7), some (.inl l2_2), some (.inl l3_8)]) (S' := []) (σ' := (SH L0, D9)) (fun _ _ => rfl) hJ
    · refine ev_iff hc 1 (pc' := 57) (L' := [some (.inr (.inr 187)), some (.inl l1_7), some (.inl l2_2), some (.inl l3_8)]) (S' := []) (σ' := (SH L0, D9)) (fun _ _ => rfl) ?_
      cases hb
      exact hK1 (some (.inl l3_8))
  · refine ev_iff hc 1 (pc' := 63) (L' := [some (.inr (.inr 187)), some (.inl l1_1), some (.inl l2_2), dv o3]) (S' := []) (σ' := (SH L0, D4)) (fun _ _ => rfl) ?_
    cases hb
    exact hK0 (some (.inl l1_1)) (some (.inl l2_2)) o3
