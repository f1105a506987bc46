set_option maxRecDepth 100000 in
set_option maxHeartbeats 4000000 in
theorem e_X1_standByDensity (L0 d : Nat) (hd : 2 ≤ d) {D : DT} {t0 : DT} (h : m_X1_standByDensity  D = some t0) : Ret mtab d 19 [.inr (.inr 141)] (SH L0, D) (none, (SH L0, t0)) := by
  obtain ⟨d, rfl⟩ : ∃ e, d = e + 1 := ⟨d - 1, by omega⟩
  refine Ret.of (code := k_X1_standByDensity) (ml := 5) rfl ?_
  show EvF mtab d k_X1_standByDensity 0 [some (.inr (.inr 141)), none, none, none, none] [] (SH L0, D) (none, (SH L0, t0))
  unfold m_X1_standByDensity at h
  obtain ⟨r, hr, h⟩ := bnd h
  have hX : (fun (r : DT) => ∀ (o14 : Option (Sum Int Nat)) (o15 : Option (Sum Int Nat)), EvF mtab d k_X1_standByDensity 98 [some (.inr (.inr 141)), dv o14, dv o15, none, none] [] (SH L0, r) (none, (SH L0, t0))) r := by
    obtain ⟨D16, hre⟩ : ∃ q, q = r := ⟨r, rfl⟩
    subst hre
    intro o14 o15
    show EvF mtab d k_X1_standByDensity 98 [some (.inr (.inr 141)), dv o14, dv o15, none, none] [] (SH L0, D16) (none, (SH L0, t0))
    obtain ⟨D17, hx, h⟩ := bnd h
    refine ev_call (e_X11_sortDown_146_151 L0 d (by omega) hx) 7 (pc' := 113) (L' := [some (.inr (.inr 141)), dv o14, dv o15, none, none]) (S' := []) (fun _ _ => rfl) ?_
    obtain ⟨r, hr, h⟩ := bnd h
    have hX : (fun (r : DT) => ∀ (o35 : Option (Sum Int Nat)) (o36 : Option (Sum Int Nat)) (o37 : Option (Sum Int Nat)) (o38 : Option (Sum Int Nat)), EvF mtab d k_X1_standByDensity 189 [some (.inr (.inr 141)), dv o35, dv o36, dv o37, dv o38] [] (SH L0, r) (none, (SH L0, t0))) r := by
      obtain ⟨D39, hre⟩ : ∃ q, q = r := ⟨r, rfl⟩
      subst hre
      intro o35 o36 o37 o38
      show EvF mtab d k_X1_standByDensity 189 [some (.inr (.inr 141)), dv o35, dv o36, dv o37, dv o38] [] (SH L0, D39) (none, (SH L0, t0))
      cases h
      exact ev_ret 1 (fun _ _ => rfl)
    clear h
    refine ev_go 4 (pc' := 117) (L' := [some (.inr (.inr 141)), some (.inl 0), some (.inl 0), none, none]) (S' := []) (σ' := (SH L0, D17)) (fun _ _ => rfl) ?_
    refine loop_ind (P := fun s => ∀ (o20 : Option (Sum Int Nat)) (o21 : Option (Sum Int Nat)), EvF mtab d k_X1_standByDensity 117 [some (.inr (.inr 141)), some (.inl s.1), some (.inl s.2.1), dv o20, dv o21] [] (SH L0, s.2.2) (none, (SH L0, t0))) (X := fun r => ∀ (o35 : Option (Sum Int Nat)) (o36 : Option (Sum Int Nat)) (o37 : Option (Sum Int Nat)) (o38 : Option (Sum Int Nat)), EvF mtab d k_X1_standByDensity 189 [some (.inr (.inr 141)), dv o35, dv o36, dv o37, dv o38] [] (SH L0, r) (none, (SH L0, t0))) hr hX ?_ none none
    clear hr hX
    intro s t hb hK0
    obtain ⟨l1_18, l2_19, D22⟩ := s
    intro o20 o21
    show EvF mtab d k_X1_standByDensity 117 [some (.inr (.inr 141)), some (.inl l1_18), some (.inl l2_19), dv o20, dv o21] [] (SH L0, D22) (none, (SH L0, t0))
    unfold b_X1_standByDensity_117 at hb
    rcases ite_or hb with ⟨hc, hb⟩ | ⟨hc, hb⟩
    · refine ev_ift hc 4 (pc' := 125) (L' := [some (.inr (.inr 141)), some (.inl l1_18), some (.inl l2_19), dv o20, dv o21]) (S' := []) (σ' := (SH L0, D22)) (fun _ _ => rfl) ?_
      obtain ⟨x23, hx, hb⟩ := bnd hb
      refine ev_bind hx 4 (pc' := 131) (L' := fun x23 => [some (.inr (.inr 141)), some (.inl l1_18), some (.inl l2_19), dv o20, dv o21]) (S' := fun x23 => [.inl x23]) (σ' := fun x23 => (SH L0, D22)) (fun _ _ => rfl) ?_
      obtain ⟨r, hr, hb⟩ := bnd hb
      have hX : (fun (r : (Int × DT)) => ∀ (o32 : Option (Sum Int Nat)) (o33 : Option (Sum Int Nat)), EvF mtab d k_X1_standByDensity 183 [some (.inr (.inr 141)), some (.inl r.1), some (.inl l2_19), dv o32, dv o33] [] (SH L0, r.2) (none, (SH L0, t0))) r := by
        obtain ⟨l1_31, D34⟩ := r
        intro o32 o33
        show EvF mtab d k_X1_standByDensity 183 [some (.inr (.inr 141)), some (.inl l1_31), some (.inl l2_19), dv o32, dv o33] [] (SH L0, D34) (none, (SH L0, t0))
        cases hb
        exact ev_go 2 (pc' := 117) (L' := [some (.inr (.inr 141)), some (.inl l1_31), some (.inl (w32 (l2_19 + 1))), dv o32, dv o33]) (S' := []) (σ' := (SH L0, D34)) (fun _ _ => rfl) (hK0 o32 o33)
      clear hb
      refine ev_go 3 (pc' := 135) (L' := [some (.inr (.inr 141)), some (.inl l1_18), some (.inl l2_19), some (.inl x23), some (.inl 0)]) (S' := []) (σ' := (SH L0, D22)) (fun _ _ => rfl) ?_
      refine loop_ind (P := fun s => EvF mtab d k_X1_standByDensity 135 [some (.inr (.inr 141)), some (.inl s.1), some (.inl l2_19), some (.inl s.2.1), some (.inl s.2.2.1)] [] (SH L0, s.2.2.2) (none, (SH L0, t0))) (X := fun r => ∀ (o32 : Option (Sum Int Nat)) (o33 : Option (Sum Int Nat)), EvF mtab d k_X1_standByDensity 183 [some (.inr (.inr 141)), some (.inl r.1), some (.inl l2_19), dv o32, dv o33] [] (SH L0, r.2) (none, (SH L0, t0))) hr hX ?_
      clear hr hX
      intro s t hb hK1
      obtain ⟨l1_24, l3_25, l4_26, D27⟩ := s
      show EvF mtab d k_X1_standByDensity 135 [some (.inr (.inr 141)), some (.inl l1_24), some (.inl l2_19), some (.inl l3_25), some (.inl l4_26)] [] (SH L0, D27) (none, (SH L0, t0))
      unfold b_X1_standByDensity_135 at hb
      rcases ite_or hb with ⟨hc, hb⟩ | ⟨hc, hb⟩
      · refine ev_ift hc 3 (pc' := 142) (L' := [some (.inr (.inr 141)), some (.inl l1_24), some (.inl l2_19), some (.inl l3_25), some (.inl l4_26)]) (S' := []) (σ' := (SH L0, D27)) (fun _ _ => rfl) ?_
        rcases ite_or hb with ⟨hc, hb⟩ | ⟨hc, hb⟩
        · refine ev_ift hc 3 (pc' := 183) (L' := [some (.inr (.inr 141)), some (.inl l1_24), some (.inl l2_19), some (.inl l3_25), some (.inl l4_26)]) (S' := []) (σ' := (SH L0, D27)) (fun _ _ => rfl) ?_
          cases hb
          exact hK1 (some (.inl l3_25)) (some (.inl l4_26))
        · refine ev_iff hc 3 (pc' := 147) (L' := [some (.inr (.inr 141)), some (.inl l1_24), some (.inl l2_19), some (.inl l3_25), some (.inl l4_26)]) (S' := []) (σ' := (SH L0, D27)) (fun _ _ => rfl) ?_
          rcases ite_or hb with ⟨hc, hb⟩ | ⟨hc, hb⟩
          · refine ev_ift hc 3 (pc' := 153) (L' := [some (.inr (.inr 141)), some (.inl l1_24), some (.inl l2_19), some (.inl l3_25), some (.inl l4_26)]) (S' := []) (σ' := (SH L0, D27)) (fun _ _ => rfl) ?_
            obtain ⟨D28, hx, hb⟩ := bnd hb
            refine ev_bind hx 5 (pc' := 160) (L' := fun D28 => [some (.inr (.inr 141)), some (.inl l1_24), some (.inl l2_19), some (.inl l3_25), some (.inl l4_26)]) (S' := fun D28 => []) (σ' := fun D28 => (SH L0, D28)) (fun _ _ => rfl) ?_
            obtain ⟨D29, hx, hb⟩ := bnd hb
            refine ev_bind hx 5 (pc' := 167) (L' := fun D29 => [some (.inr (.inr 141)), some (.inl l1_24), some (.inl l2_19), some (.inl l3_25), some (.inl l4_26)]) (S' := fun D29 => []) (σ' := fun D29 => (SH L0, D29)) (fun _ _ => rfl) ?_
            obtain ⟨x30, hx, hb⟩ := bnd hb
            refine ev_bind hx 5 (pc' := 176) (L' := fun x30 => [some (.inr (.inr 141)), some (.inl (w32 (l1_24 + 1))), some (.inl l2_19), some (.inl l3_25), some (.inl l4_26)]) (S' := fun x30 => [.inl x30]) (σ' := fun x30 => (SH L0, D29)) (fun _ _ => rfl) ?_
            cases hb
            exact ev_go 3 (pc' := 135) (L' := [some (.inr (.inr 141)), some (.inl (w32 (l1_24 + 1))), some (.inl l2_19), some (.inl x30), some (.inl (w32 (l4_26 + 1)))]) (S' := []) (σ' := (SH L0, D29)) (fun _ _ => rfl) hK1
          · refine ev_iff hc 3 (pc' := 183) (L' := [some (.inr (.inr 141)), some (.inl l1_24), some (.inl l2_19), some (.inl l3_25), some (.inl l4_26)]) (S' := []) (σ' := (SH L0, D27)) (fun _ _ => rfl) ?_
            cases hb
            exact hK1 (some (.inl l3_25)) (some (.inl l4_26))
      · refine ev_iff hc 3 (pc' := 183) (L' := [some (.inr (.inr 141)), some (.inl l1_24), some (.inl l2_19), some (.inl l3_25), some (.inl l4_26)]) (S' := []) (σ' := (SH L0, D27)) (fun _ _ => rfl) ?_
        cases hb
        exact hK1 (some (.inl l3_25)) (some (.inl l4_26))
    · refine ev_iff hc 4 (pc' := 189) (L' := [some (.inr (.inr 141)), some (.inl l1_18), some (.inl l2_19), dv o20, dv o21]) (S' := []) (σ' := (SH L0, D22)) (fun _ _ => rfl) ?_
      cases hb
      exact hK0 (some (.inl l1_18)) (some (.inl l2_19)) o20 o21
  clear h
  refine ev_go 5 (pc' := 7) (L' := [some (.inr (.inr 141)), some (.inl 0), none, none, none]) (S' := []) (σ' := (SH L0, dput D 141 4 0)) (fun _ _ => rfl) ?_
  refine loop_ind (P := fun s => ∀ (o2 : Option (Sum Int Nat)), EvF mtab d k_X1_standByDensity 7 [some (.inr (.inr 141)), some (.inl s.1), dv o2, none, none] [] (SH L0, s.2) (none, (SH L0, t0))) (X := fun r => ∀ (o14 : Option (Sum Int Nat)) (o15 : Option (Sum Int Nat)), EvF mtab d k_X1_standByDensity 98 [some (.inr (.inr 141)), dv o14, dv o15, none, none] [] (SH L0, r) (none, (SH L0, t0))) hr hX ?_ none
  clear hr hX
  intro s t hb hK0
  obtain ⟨l1_1, D3⟩ := s
  intro o2
  show EvF mtab d k_X1_standByDensity 7 [some (.inr (.inr 141)), some (.inl l1_1), dv o2, none, none] [] (SH L0, D3) (none, (SH L0, t0))
  unfold b_X1_standByDensity_7 at hb
  rcases ite_or hb with ⟨hc, hb⟩ | ⟨hc, hb⟩
  · refine ev_ift hc 5 (pc' := 18) (L' := [some (.inr (.inr 141)), some (.inl l1_1), dv o2, none, none]) (S' := []) (σ' := (SH L0, D3)) (fun _ _ => rfl) ?_
    obtain ⟨x4, hx, hb⟩ := bnd hb
    refine ev_bind hx 4 (pc' := 24) (L' := fun x4 => [some (.inr (.inr 141)), some (.inl l1_1), dv o2, none, none]) (S' := fun x4 => [.inl x4]) (σ' := fun x4 => (SH L0, D3)) (fun _ _ => rfl) ?_
    obtain ⟨x5, hx, hb⟩ := bnd hb
    refine ev_call (e_X1_isListed L0 d (by omega) hx) 4 (pc' := 30) (L' := [some (.inr (.inr 141)), some (.inl l1_1), some (.inl x4), none, none]) (S' := []) (fun _ _ => rfl) ?_
    obtain ⟨D13, hv, hb⟩ := bnd hb
    have hJ : EvF mtab d k_X1_standByDensity 92 [some (.inr (.inr 141)), some (.inl l1_1), some (.inl x4), none, none] [] (SH L0, D13) (none, (SH L0, t0)) := by
      cases hb
      exact ev_go 2 (pc' := 7) (L' := [some (.inr (.inr 141)), some (.inl (w32 (l1_1 + 1))), some (.inl x4), none, none]) (S' := []) (σ' := (SH L0, D13)) (fun _ _ => rfl) (hK0 (some (.inl x4)))
    clear hb
    rcases ite_or hv with ⟨hc, hv⟩ | ⟨hc, hv⟩
    · refine ev_ift hc 1 (pc' := 33) (L' := [some (.inr (.inr 141)), some (.inl l1_1), some (.inl x4), none, none]) (S' := []) (σ' := (SH L0, D3)) (fun _ _ => rfl) ?_
      obtain ⟨D6, hx, hv⟩ := bnd hv
      refine ev_bind hx 6 (pc' := 43) (L' := fun D6 => [some (.inr (.inr 141)), some (.inl l1_1), some (.inl x4), none, none]) (S' := fun D6 => []) (σ' := fun D6 => (SH L0, D6)) (fun _ _ => rfl) ?_
      obtain ⟨x7, hx, hv⟩ := bnd hv
      refine ev_bind hx 7 (pc' := 54) (L' := fun x7 => [some (.inr (.inr 141)), some (.inl l1_1), some (.inl x4), none, none]) (S' := fun x7 => [.inl x7, .inl x4, .inr (.inr 151)]) (σ' := fun x7 => (SH L0, D6)) (fun _ _ => rfl) ?_
      obtain ⟨t11, hv, hv⟩ := bnd hv
      have hJ : EvF mtab d k_X1_standByDensity 81 [some (.inr (.inr 141)), some (.inl l1_1), some (.inl x4), none, none] [.inl t11, .inl x4, .inr (.inr 151)] (SH L0, D6) (none, (SH L0, t0)) := by
        obtain ⟨D12, hx, hv⟩ := bnd hv
        refine ev_bind hx 1 (pc' := 82) (L' := fun D12 => [some (.inr (.inr 141)), some (.inl l1_1), some (.inl x4), none, none]) (S' := fun D12 => []) (σ' := fun D12 => (SH L0, D12)) (fun _ _ => rfl) ?_
        have he0 := Option.some.inj hv
        subst he0
        exact ev_go 6 (pc' := 92) (L' := [some (.inr (.inr 141)), some (.inl l1_1), some (.inl x4), none, none]) (S' := []) (σ' := (SH L0, dput D12 141 4 (w32 ((D12 141 4) + 1)))) (fun _ _ => rfl) hJ
      clear hv
      rcases ite_or hv with ⟨hc, hv⟩ | ⟨hc, hv⟩
      · refine ev_ift hc 1 (pc' := 57) (L' := [some (.inr (.inr 141)), some (.inl l1_1), some (.inl x4), none, none]) (S' := [.inl x4, .inr (.inr 151)]) (σ' := (SH L0, D6)) (fun _ _ => rfl) ?_
        have he0 := Option.some.inj hv
        subst he0
        exact ev_go 2 (pc' := 81) (L' := [some (.inr (.inr 141)), some (.inl l1_1), some (.inl x4), none, none]) (S' := [.inl 0, .inl x4, .inr (.inr 151)]) (σ' := (SH L0, D6)) (fun _ _ => rfl) hJ
      · refine ev_iff hc 1 (pc' := 61) (L' := [some (.inr (.inr 141)), some (.inl l1_1), some (.inl x4), none, none]) (S' := [.inl x4, .inr (.inr 151)]) (σ' := (SH L0, D6)) (fun _ _ => rfl) ?_
        obtain ⟨x8, hx, hv⟩ := bnd hv
        refine ev_bind hx 4 (pc' := 67) (L' := fun x8 => [some (.inr (.inr 141)), some (.inl l1_1), some (.inl x4), none, none]) (S' := fun x8 => [.inl x8, .inl x4, .inr (.inr 151)]) (σ' := fun x8 => (SH L0, D6)) (fun _ _ => rfl) ?_
        obtain ⟨x9, hx, hv⟩ := bnd hv
        refine ev_bind hx 7 (pc' := 78) (L' := fun x9 => [some (.inr (.inr 141)), some (.inl l1_1), some (.inl x4), none, none]) (S' := fun x9 => [.inl x9, .inr (.inl (w64 (x8 * 1000))), .inl x4, .inr (.inr 151)]) (σ' := fun x9 => (SH L0, D6)) (fun _ _ => rfl) ?_
        obtain ⟨x10, hx, hv⟩ := bnd hv
        refine ev_bind hx 2 (pc' := 80) (L' := fun x10 => [some (.inr (.inr 141)), some (.inl l1_1), some (.inl x4), none, none]) (S' := fun x10 => [.inr (.inl x10), .inl x4, .inr (.inr 151)]) (σ' := fun x10 => (SH L0, D6)) (fun _ _ => rfl) ?_
        have he0 := Option.some.inj hv
        subst he0
        exact ev_go 1 (pc' := 81) (L' := [some (.inr (.inr 141)), some (.inl l1_1), some (.inl x4), none, none]) (S' := [.inl (w32 x10), .inl x4, .inr (.inr 151)]) (σ' := (SH L0, D6)) (fun _ _ => rfl) hJ
    · refine ev_iff hc 1 (pc' := 92) (L' := [some (.inr (.inr 141)), some (.inl l1_1), some (.inl x4), none, none]) (S' := []) (σ' := (SH L0, D3)) (fun _ _ => rfl) ?_
      have he0 := Option.some.inj hv
      subst he0
      exact hJ
  · refine ev_iff hc 5 (pc' := 98) (L' := [some (.inr (.inr 141)), some (.inl l1_1), dv o2, none, none]) (S' := []) (σ' := (SH L0, D3)) (fun _ _ => rfl) ?_
    cases hb
    exact hK0 (some (.inl l1_1)) o2
set_option maxRecDepth 100000 in
set_option maxHeartbeats 4000000 in
theorem e_X7_placeInTrace_4 (L0 d : Nat) (hd : 1 ≤ d) {p1 : Int} {D : DT} {t0 : Int} (h : m_X7_placeInTrace 4 p1 D = some t0) : Ret mtab d 88 [.inr (.inr 4), .inl p1] (SH L0, D) (some (.inl t0), (SH L0, D)) := by
  obtain ⟨d, rfl⟩ : ∃ e, d = e + 1 := ⟨d - 1, by omega⟩
  refine Ret.of (code := k_X7_placeInTrace) (ml := 3) rfl ?_
  show EvF mtab d k_X7_placeInTrace 0 [some (.inr (.inr 4)), some (.inl p1), none] [] (SH L0, D) (some (.inl t0), (SH L0, D))
  unfold m_X7_placeInTrace at h
  obtain ⟨r, hr, h⟩ := bnd h
  have hX : (fun (r : (Int ⊕ Unit)) => match r with | .inl r => (EvF mtab d k_X7_placeInTrace 20 [some (.inr (.inr 4)), some (.inl p1), some (.inl r)] [] (SH L0, D) (some (.inl t0), (SH L0, D))) | .inr r => (∀ (o4 : Option (Sum Int Nat)), EvF mtab d k_X7_placeInTrace 28 [some (.inr (.inr 4)), some (.inl p1), dv o4] [] (SH L0, D) (some (.inl t0), (SH L0, D)))) r := by
    rcases r with r | r
    · skip
      obtain ⟨l2_3, hre⟩ : ∃ q, q = r := ⟨r, rfl⟩
      subst hre
      show EvF mtab d k_X7_placeInTrace 20 [some (.inr (.inr 4)), some (.inl p1), some (.inl l2_3)] [] (SH L0, D) (some (.inl t0), (SH L0, D))
      cases h
      exact ev_ret 2 (fun _ _ => rfl)
    intro o4
    show EvF mtab d k_X7_placeInTrace 28 [some (.inr (.inr 4)), some (.inl p1), dv o4] [] (SH L0, D) (some (.inl t0), (SH L0, D))
    cases h
    exact ev_ret 2 (fun _ _ => rfl)
  clear h
  refine ev_go 2 (pc' := 2) (L' := [some (.inr (.inr 4)), some (.inl p1), some (.inl 0)]) (S' := []) (σ' := (SH L0, D)) (fun _ _ => rfl) ?_
  refine loop_ind (P := fun s => EvF mtab d k_X7_placeInTrace 2 [some (.inr (.inr 4)), some (.inl p1), some (.inl s)] [] (SH L0, D) (some (.inl t0), (SH L0, D))) (X := fun r => match r with | .inl r => (EvF mtab d k_X7_placeInTrace 20 [some (.inr (.inr 4)), some (.inl p1), some (.inl r)] [] (SH L0, D) (some (.inl t0), (SH L0, D))) | .inr r => (∀ (o4 : Option (Sum Int Nat)), EvF mtab d k_X7_placeInTrace 28 [some (.inr (.inr 4)), some (.inl p1), dv o4] [] (SH L0, D) (some (.inl t0), (SH L0, D)))) hr hX ?_
  clear hr hX
  intro s t hb hK0
  obtain ⟨l2_1, hre⟩ : ∃ q, q = s := ⟨s, rfl⟩
  subst hre
  show EvF mtab d k_X7_placeInTrace 2 [some (.inr (.inr 4)), some (.inl p1), some (.inl l2_1)] [] (SH L0, D) (some (.inl t0), (SH L0, D))
  unfold b_X7_placeInTrace_2 at hb
  rcases ite_or hb with ⟨hc, hb⟩ | ⟨hc, hb⟩
  · refine ev_ift hc 4 (pc' := 10) (L' := [some (.inr (.inr 4)), some (.inl p1), some (.inl l2_1)]) (S' := []) (σ' := (SH L0, D)) (fun _ _ => rfl) ?_
    obtain ⟨x2, hx, hb⟩ := bnd hb
    refine ev_bind hx 4 (pc' := 16) (L' := fun x2 => [some (.inr (.inr 4)), some (.inl p1), some (.inl l2_1)]) (S' := fun x2 => [.inl x2]) (σ' := fun x2 => (SH L0, D)) (fun _ _ => rfl) ?_
    rcases ite_or hb with ⟨hc, hb⟩ | ⟨hc, hb⟩
    · refine ev_ift hc 2 (pc' := 20) (L' := [some (.inr (.inr 4)), some (.inl p1), some (.inl l2_1)]) (S' := []) (σ' := (SH L0, D)) (fun _ _ => rfl) ?_
      cases hb
      exact hK0
    · refine ev_iff hc 2 (pc' := 22) (L' := [some (.inr (.inr 4)), some (.inl p1), some (.inl l2_1)]) (S' := []) (σ' := (SH L0, D)) (fun _ _ => rfl) ?_
      cases hb
      exact ev_go 2 (pc' := 2) (L' := [some (.inr (.inr 4)), some (.inl p1), some (.inl (w32 (l2_1 + 1)))]) (S' := []) (σ' := (SH L0, D)) (fun _ _ => rfl) hK0
  · refine ev_iff hc 4 (pc' := 28) (L' := [some (.inr (.inr 4)), some (.inl p1), some (.inl l2_1)]) (S' := []) (σ' := (SH L0, D)) (fun _ _ => rfl) ?_
    cases hb
    exact hK0 (some (.inl l2_1))
set_option maxRecDepth 100000 in
set_option maxHeartbeats 4000000 in
theorem e_X7_placeInTrace_19 (L0 d : Nat) (hd : 1 ≤ d) {p1 : Int} {D : DT} {t0 : Int} (h : m_X7_placeInTrace 19 p1 D = some t0) : Ret mtab d 88 [.inr (.inr 19), .inl p1] (SH L0, D) (some (.inl t0), (SH L0, D)) := by
  obtain ⟨d, rfl⟩ : ∃ e, d = e + 1 := ⟨d - 1, by omega⟩
  refine Ret.of (code := k_X7_placeInTrace) (ml := 3) rfl ?_
  show EvF mtab d k_X7_placeInTrace 0 [some (.inr (.inr 19)), some (.inl p1), none] [] (SH L0, D) (some (.inl t0), (SH L0, D))
  unfold m_X7_placeInTrace at h
  obtain ⟨r, hr, h⟩ := bnd h
  have hX : (fun (r : (Int ⊕ Unit)) => match r with | .inl r => (EvF mtab d k_X7_placeInTrace 20 [some (.inr (.inr 19)), some (.inl p1), some (.inl r)] [] (SH L0, D) (some (.inl t0), (SH L0, D))) | .inr r => (∀ (o4 : Option (Sum Int Nat)), EvF mtab d k_X7_placeInTrace 28 [some (.inr (.inr 19)), some (.inl p1), dv o4] [] (SH L0, D) (some (.inl t0), (SH L0, D)))) r := by
    rcases r with r | r
    · skip
      obtain ⟨l2_3, hre⟩ : ∃ q, q = r := ⟨r, rfl⟩
      subst hre
      show EvF mtab d k_X7_placeInTrace 20 [some (.inr (.inr 19)), some (.inl p1), some (.inl l2_3)] [] (SH L0, D) (some (.inl t0), (SH L0, D))
      cases h
      exact ev_ret 2 (fun _ _ => rfl)
    intro o4
    show EvF mtab d k_X7_placeInTrace 28 [some (.inr (.inr 19)), some (.inl p1), dv o4] [] (SH L0, D) (some (.inl t0), (SH L0, D))
    cases h
    exact ev_ret 2 (fun _ _ => rfl)
  clear h
  refine ev_go 2 (pc' := 2) (L' := [some (.inr (.inr 19)), some (.inl p1), some (.inl 0)]) (S' := []) (σ' := (SH L0, D)) (fun _ _ => rfl) ?_
  refine loop_ind (P := fun s => EvF mtab d k_X7_placeInTrace 2 [some (.inr (.inr 19)), some (.inl p1), some (.inl s)] [] (SH L0, D) (some (.inl t0), (SH L0, D))) (X := fun r => match r with | .inl r => (EvF mtab d k_X7_placeInTrace 20 [some (.inr (.inr 19)), some (.inl p1), some (.inl r)] [] (SH L0, D) (some (.inl t0), (SH L0, D))) | .inr r => (∀ (o4 : Option (Sum Int Nat)), EvF mtab d k_X7_placeInTrace 28 [some (.inr (.inr 19)), some (.inl p1), dv o4] [] (SH L0, D) (some (.inl t0), (SH L0, D)))) hr hX ?_
  clear hr hX
  intro s t hb hK0
  obtain ⟨l2_1, hre⟩ : ∃ q, q = s := ⟨s, rfl⟩
  subst hre
  show EvF mtab d k_X7_placeInTrace 2 [some (.inr (.inr 19)), some (.inl p1), some (.inl l2_1)] [] (SH L0, D) (some (.inl t0), (SH L0, D))
  unfold b_X7_placeInTrace_2 at hb
  rcases ite_or hb with ⟨hc, hb⟩ | ⟨hc, hb⟩
  · refine ev_ift hc 4 (pc' := 10) (L' := [some (.inr (.inr 19)), some (.inl p1), some (.inl l2_1)]) (S' := []) (σ' := (SH L0, D)) (fun _ _ => rfl) ?_
    obtain ⟨x2, hx, hb⟩ := bnd hb
    refine ev_bind hx 4 (pc' := 16) (L' := fun x2 => [some (.inr (.inr 19)), some (.inl p1), some (.inl l2_1)]) (S' := fun x2 => [.inl x2]) (σ' := fun x2 => (SH L0, D)) (fun _ _ => rfl) ?_
    rcases ite_or hb with ⟨hc, hb⟩ | ⟨hc, hb⟩
    · refine ev_ift hc 2 (pc' := 20) (L' := [some (.inr (.inr 19)), some (.inl p1), some (.inl l2_1)]) (S' := []) (σ' := (SH L0, D)) (fun _ _ => rfl) ?_
      cases hb
      exact hK0
    · refine ev_iff hc 2 (pc' := 22) (L' := [some (.inr (.inr 19)), some (.inl p1), some (.inl l2_1)]) (S' := []) (σ' := (SH L0, D)) (fun _ _ => rfl) ?_
      cases hb
      exact ev_go 2 (pc' := 2) (L' := [some (.inr (.inr 19)), some (.inl p1), some (.inl (w32 (l2_1 + 1)))]) (S' := []) (σ' := (SH L0, D)) (fun _ _ => rfl) hK0
  · refine ev_iff hc 4 (pc' := 28) (L' := [some (.inr (.inr 19)), some (.inl p1), some (.inl l2_1)]) (S' := []) (σ' := (SH L0, D)) (fun _ _ => rfl) ?_
    cases hb
    exact hK0 (some (.inl l2_1))
set_option maxRecDepth 100000 in
set_option maxHeartbeats 4000000 in
theorem e_X1_standByTrace (L0 d : Nat) (hd : 2 ≤ d) {D : DT} {t0 : DT} (h : m_X1_standByTrace  D = some t0) : Ret mtab d 21 [.inr (.inr 141)] (SH L0, D) (none, (SH L0, t0)) := by
  obtain ⟨d, rfl⟩ : ∃ e, d = e + 1 := ⟨d - 1, by omega⟩
  refine Ret.of (code := k_X1_standByTrace) (ml := 3) rfl ?_
  show EvF mtab d k_X1_standByTrace 0 [some (.inr (.inr 141)), none, none] [] (SH L0, D) (none, (SH L0, t0))
  unfold m_X1_standByTrace at h
  obtain ⟨r, hr, h⟩ := bnd h
  have hX : (fun (r : (Int × DT)) => ∀ (o7 : Option (Sum Int Nat)), EvF mtab d k_X1_standByTrace 39 [some (.inr (.inr 141)), some (.inl r.1), dv o7] [] (SH L0, r.2) (none, (SH L0, t0))) r := by
    obtain ⟨l1_6, D8⟩ := r
    intro o7
    show EvF mtab d k_X1_standByTrace 39 [some (.inr (.inr 141)), some (.inl l1_6), dv o7] [] (SH L0, D8) (none, (SH L0, t0))
    obtain ⟨r, hr, h⟩ := bnd h
    have hX : (fun (r : DT) => ∀ (o18 : Option (Sum Int Nat)) (o19 : Option (Sum Int Nat)), EvF mtab d k_X1_standByTrace 96 [some (.inr (.inr 141)), dv o18, dv o19] [] (SH L0, r) (none, (SH L0, t0))) r := by
      obtain ⟨D20, hre⟩ : ∃ q, q = r := ⟨r, rfl⟩
      subst hre
      intro o18 o19
      show EvF mtab d k_X1_standByTrace 96 [some (.inr (.inr 141)), dv o18, dv o19] [] (SH L0, D20) (none, (SH L0, t0))
      cases h
      exact ev_ret 1 (fun _ _ => rfl)
    clear h
    refine ev_go 2 (pc' := 41) (L' := [some (.inr (.inr 141)), some (.inl l1_6), some (.inl 0)]) (S' := []) (σ' := (SH L0, D8)) (fun _ _ => rfl) ?_
    refine loop_ind (P := fun s => EvF mtab d k_X1_standByTrace 41 [some (.inr (.inr 141)), some (.inl s.1), some (.inl s.2.1)] [] (SH L0, s.2.2) (none, (SH L0, t0))) (X := fun r => ∀ (o18 : Option (Sum Int Nat)) (o19 : Option (Sum Int Nat)), EvF mtab d k_X1_standByTrace 96 [some (.inr (.inr 141)), dv o18, dv o19] [] (SH L0, r) (none, (SH L0, t0))) hr hX ?_
    clear hr hX
    intro s t hb hK0
    obtain ⟨l1_9, l2_10, D11⟩ := s
    show EvF mtab d k_X1_standByTrace 41 [some (.inr (.inr 141)), some (.inl l1_9), some (.inl l2_10)] [] (SH L0, D11) (none, (SH L0, t0))
    unfold b_X1_standByTrace_41 at hb
    rcases ite_or hb with ⟨hc, hb⟩ | ⟨hc, hb⟩
    · refine ev_ift hc 5 (pc' := 52) (L' := [some (.inr (.inr 141)), some (.inl l1_9), some (.inl l2_10)]) (S' := []) (σ' := (SH L0, D11)) (fun _ _ => rfl) ?_
      rcases ite_or hb with ⟨hc, hb⟩ | ⟨hc, hb⟩
      · refine ev_ift hc 3 (pc' := 58) (L' := [some (.inr (.inr 141)), some (.inl l1_9), some (.inl l2_10)]) (S' := []) (σ' := (SH L0, D11)) (fun _ _ => rfl) ?_
        obtain ⟨x12, hx, hb⟩ := bnd hb
        refine ev_bind hx 6 (pc' := 68) (L' := fun x12 => [some (.inr (.inr 141)), some (.inl l1_9), some (.inl l2_10)]) (S' := fun x12 => [.inl x12, .inr (.inr 4)]) (σ' := fun x12 => (SH L0, D11)) (fun _ _ => rfl) ?_
        obtain ⟨x13, hx, hb⟩ := bnd hb
        refine ev_call (e_X7_placeInTrace_4 L0 d (by omega) hx) 1 (pc' := 71) (L' := [some (.inr (.inr 141)), some (.inl l1_9), some (.inl l2_10)]) (S' := []) (fun _ _ => rfl) ?_
        obtain ⟨⟨l1_16, D17⟩, hv, hb⟩ := bnd hb
        have hJ : EvF mtab d k_X1_standByTrace 90 [some (.inr (.inr 141)), some (.inl l1_16), some (.inl l2_10)] [] (SH L0, D17) (none, (SH L0, t0)) := by
          cases hb
          exact ev_go 2 (pc' := 41) (L' := [some (.inr (.inr 141)), some (.inl l1_16), some (.inl (w32 (l2_10 + 1)))]) (S' := []) (σ' := (SH L0, D17)) (fun _ _ => rfl) hK0
        clear hb
        rcases ite_or hv with ⟨hc, hv⟩ | ⟨hc, hv⟩
        · refine ev_ift hc 2 (pc' := 75) (L' := [some (.inr (.inr 141)), some (.inl l1_9), some (.inl l2_10)]) (S' := []) (σ' := (SH L0, D11)) (fun _ _ => rfl) ?_
          obtain ⟨x14, hx, hv⟩ := bnd hv
          refine ev_bind hx 7 (pc' := 86) (L' := fun x14 => [some (.inr (.inr 141)), some (.inl l1_9), some (.inl l2_10)]) (S' := fun x14 => [.inl x14, .inl l1_9, .inr (.inr 143)]) (σ' := fun x14 => (SH L0, D11)) (fun _ _ => rfl) ?_
          obtain ⟨D15, hx, hv⟩ := bnd hv
          refine ev_bind hx 1 (pc' := 87) (L' := fun D15 => [some (.inr (.inr 141)), some (.inl l1_9), some (.inl l2_10)]) (S' := fun D15 => []) (σ' := fun D15 => (SH L0, D15)) (fun _ _ => rfl) ?_
          have he0 := Option.some.inj hv
          obtain ⟨ha0, he1⟩ := Prod.mk.inj he0
          clear he0
          subst ha0
          subst he1
          exact ev_go 1 (pc' := 90) (L' := [some (.inr (.inr 141)), some (.inl (w32 (l1_9 + 1))), some (.inl l2_10)]) (S' := []) (σ' := (SH L0, D15)) (fun _ _ => rfl) hJ
        · refine ev_iff hc 2 (pc' := 90) (L' := [some (.inr (.inr 141)), some (.inl l1_9), some (.inl l2_10)]) (S' := []) (σ' := (SH L0, D11)) (fun _ _ => rfl) ?_
          have he0 := Option.some.inj hv
          obtain ⟨ha0, he1⟩ := Prod.mk.inj he0
          clear he0
          subst ha0
          subst he1
          exact hJ
      · refine ev_iff hc 3 (pc' := 96) (L' := [some (.inr (.inr 141)), some (.inl l1_9), some (.inl l2_10)]) (S' := []) (σ' := (SH L0, D11)) (fun _ _ => rfl) ?_
        cases hb
        exact hK0 (some (.inl l1_9)) (some (.inl l2_10))
    · refine ev_iff hc 5 (pc' := 96) (L' := [some (.inr (.inr 141)), some (.inl l1_9), some (.inl l2_10)]) (S' := []) (σ' := (SH L0, D11)) (fun _ _ => rfl) ?_
      cases hb
      exact hK0 (some (.inl l1_9)) (some (.inl l2_10))
  clear h
  refine ev_go 4 (pc' := 4) (L' := [some (.inr (.inr 141)), some (.inl 0), some (.inl 0)]) (S' := []) (σ' := (SH L0, D)) (fun _ _ => rfl) ?_
  refine loop_ind (P := fun s => EvF mtab d k_X1_standByTrace 4 [some (.inr (.inr 141)), some (.inl s.1), some (.inl s.2.1)] [] (SH L0, s.2.2) (none, (SH L0, t0))) (X := fun r => ∀ (o7 : Option (Sum Int Nat)), EvF mtab d k_X1_standByTrace 39 [some (.inr (.inr 141)), some (.inl r.1), dv o7] [] (SH L0, r.2) (none, (SH L0, t0))) hr hX ?_
  clear hr hX
  intro s t hb hK0
  obtain ⟨l1_1, l2_2, D3⟩ := s
  show EvF mtab d k_X1_standByTrace 4 [some (.inr (.inr 141)), some (.inl l1_1), some (.inl l2_2)] [] (SH L0, D3) (none, (SH L0, t0))
  unfold b_X1_standByTrace_4 at hb
  rcases ite_or hb with ⟨hc, hb⟩ | ⟨hc, hb⟩
  · refine ev_ift hc 5 (pc' := 15) (L' := [some (.inr (.inr 141)), some (.inl l1_1), some (.inl l2_2)]) (S' := []) (σ' := (SH L0, D3)) (fun _ _ => rfl) ?_
    obtain ⟨x4, hx, hb⟩ := bnd hb
    refine ev_bind hx 8 (pc' := 29) (L' := fun x4 => [some (.inr (.inr 141)), some (.inl l1_1), some (.inl l2_2)]) (S' := fun x4 => [.inl x4, .inl l1_1, .inr (.inr 143)]) (σ' := fun x4 => (SH L0, D3)) (fun _ _ => rfl) ?_
    obtain ⟨D5, hx, hb⟩ := bnd hb
    refine ev_bind hx 1 (pc' := 30) (L' := fun D5 => [some (.inr (.inr 141)), some (.inl l1_1), some (.inl l2_2)]) (S' := fun D5 => []) (σ' := fun D5 => (SH L0, D5)) (fun _ _ => rfl) ?_
    cases hb
    exact ev_go 3 (pc' := 4) (L' := [some (.inr (.inr 141)), some (.inl (w32 (l1_1 + 1))), some (.inl (w32 (l2_2 + 1)))]) (S' := []) (σ' := (SH L0, D5)) (fun _ _ => rfl) hK0
  · refine ev_iff hc 5 (pc' := 39) (L' := [some (.inr (.inr 141)), some (.inl l1_1), some (.inl l2_2)]) (S' := []) (σ' := (SH L0, D3)) (fun _ _ => rfl) ?_
    cases hb
    exact hK0 (some (.inl l2_2))
set_option maxRecDepth 100000 in
set_option maxHeartbeats 4000000 in
theorem e_X7_bytesOf (L0 d : Nat) (hd : 2 ≤ d) {p1 : Int} {D : DT} {t0 : Int} (h : m_X7_bytesOf p1 D = some t0) : Ret mtab d 84 [.inr (.inr 4), .inl p1] (SH L0, D) (some (.inl t0), (SH L0, D)) := by
  obtain ⟨d, rfl⟩ : ∃ e, d = e + 1 := ⟨d - 1, by omega⟩
  refine Ret.of (code := k_X7_bytesOf) (ml := 4) rfl ?_
  show EvF mtab d k_X7_bytesOf 0 [some (.inr (.inr 4)), some (.inl p1), none, none] [] (SH L0, D) (some (.inl t0), (SH L0, D))
  unfold m_X7_bytesOf at h
  obtain ⟨r, hr, h⟩ := bnd h
  have hX : (fun (r : Int) => ∀ (o7 : Option (Sum Int Nat)), EvF mtab d k_X7_bytesOf 34 [some (.inr (.inr 4)), some (.inl p1), some (.inl r), dv o7] [] (SH L0, D) (some (.inl t0), (SH L0, D))) r := by
    obtain ⟨l2_6, hre⟩ : ∃ q, q = r := ⟨r, rfl⟩
    subst hre
    intro o7
    show EvF mtab d k_X7_bytesOf 34 [some (.inr (.inr 4)), some (.inl p1), some (.inl l2_6), dv o7] [] (SH L0, D) (some (.inl t0), (SH L0, D))
    cases h
    exact ev_ret 2 (fun _ _ => rfl)
  clear h
  refine ev_go 4 (pc' := 4) (L' := [some (.inr (.inr 4)), some (.inl p1), some (.inl 0), some (.inl 0)]) (S' := []) (σ' := (SH L0, D)) (fun _ _ => rfl) ?_
  refine loop_ind (P := fun s => EvF mtab d k_X7_bytesOf 4 [some (.inr (.inr 4)), some (.inl p1), some (.inl s.1), some (.inl s.2)] [] (SH L0, D) (some (.inl t0), (SH L0, D))) (X := fun r => ∀ (o7 : Option (Sum Int Nat)), EvF mtab d k_X7_bytesOf 34 [some (.inr (.inr 4)), some (.inl p1), some (.inl r), dv o7] [] (SH L0, D) (some (.inl t0), (SH L0, D))) hr hX ?_
  clear hr hX
  intro s t hb hK0
  obtain ⟨l2_1, l3_2⟩ := s
  show EvF mtab d k_X7_bytesOf 4 [some (.inr (.inr 4)), some (.inl p1), some (.inl l2_1), some (.inl l3_2)] [] (SH L0, D) (some (.inl t0), (SH L0, D))
  unfold b_X7_bytesOf_4 at hb
  obtain ⟨x3, hx, hb⟩ := bnd hb
  refine ev_bind hx 5 (pc' := 11) (L' := fun x3 => [some (.inr (.inr 4)), some (.inl p1), some (.inl l2_1), some (.inl l3_2)]) (S' := fun x3 => [.inl x3, .inl l3_2]) (σ' := fun x3 => (SH L0, D)) (fun _ _ => rfl) ?_
  rcases ite_or hb with ⟨hc, hb⟩ | ⟨hc, hb⟩
  · refine ev_ift hc 1 (pc' := 14) (L' := [some (.inr (.inr 4)), some (.inl p1), some (.inl l2_1), some (.inl l3_2)]) (S' := []) (σ' := (SH L0, D)) (fun _ _ => rfl) ?_
    obtain ⟨x4, hx, hb⟩ := bnd hb
    refine ev_call (e_X7_member_4 L0 d (by omega) hx) 7 (pc' := 25) (L' := [some (.inr (.inr 4)), some (.inl p1), some (.inl l2_1), some (.inl l3_2)]) (S' := [.inr (.inr 9), .inl l2_1]) (fun _ _ => rfl) ?_
    obtain ⟨x5, hx, hb⟩ := bnd hb
    refine ev_bind hx 1 (pc' := 26) (L' := fun x5 => [some (.inr (.inr 4)), some (.inl p1), some (.inl l2_1), some (.inl l3_2)]) (S' := fun x5 => [.inl x5, .inl l2_1]) (σ' := fun x5 => (SH L0, D)) (fun _ _ => rfl) ?_
    cases hb
    exact ev_go 4 (pc' := 4) (L' := [some (.inr (.inr 4)), some (.inl p1), some (.inl (w32 (l2_1 + x5))), some (.inl (w32 (l3_2 + 1)))]) (S' := []) (σ' := (SH L0, D)) (fun _ _ => rfl) hK0
  · refine ev_iff hc 1 (pc' := 34) (L' := [some (.inr (.inr 4)), some (.inl p1), some (.inl l2_1), some (.inl l3_2)]) (S' := []) (σ' := (SH L0, D)) (fun _ _ => rfl) ?_
    cases hb
    exact hK0 (some (.inl l3_2))
set_option maxRecDepth 100000 in
set_option maxHeartbeats 4000000 in
theorem e_X1_gather (L0 d : Nat) (hd : 4 ≤ d) {D : DT} {t0 : DT} (h : m_X1_gather  D = some t0) : Ret mtab d 14 [.inr (.inr 141)] (SH L0, D) (none, (SH L0, t0)) := by
  obtain ⟨d, rfl⟩ : ∃ e, d = e + 1 := ⟨d - 1, by omega⟩
  refine Ret.of (code := k_X1_gather) (ml := 2) rfl ?_
  show EvF mtab d k_X1_gather 0 [some (.inr (.inr 141)), none] [] (SH L0, D) (none, (SH L0, t0))
  unfold m_X1_gather at h
  obtain ⟨r, hr, h⟩ := bnd h
  have hX : (fun (r : DT) => ∀ (o13 : Option (Sum Int Nat)), EvF mtab d k_X1_gather 87 [some (.inr (.inr 141)), dv o13] [] (SH L0, r) (none, (SH L0, t0))) r := by
    obtain ⟨D14, hre⟩ : ∃ q, q = r := ⟨r, rfl⟩
    subst hre
    intro o13
    show EvF mtab d k_X1_gather 87 [some (.inr (.inr 141)), dv o13] [] (SH L0, D14) (none, (SH L0, t0))
    obtain ⟨D15, hx, h⟩ := bnd h
    refine ev_call (e_X11_sortDown_146_149 L0 d (by omega) hx) 8 (pc' := 105) (L' := [some (.inr (.inr 141)), dv o13]) (S' := []) (fun _ _ => rfl) ?_
    obtain ⟨r, hr, h⟩ := bnd h
    have hX : (fun (r : DT) => ∀ (o20 : Option (Sum Int Nat)), EvF mtab d k_X1_gather 134 [some (.inr (.inr 141)), dv o20] [] (SH L0, r) (none, (SH L0, t0))) r := by
      obtain ⟨D21, hre⟩ : ∃ q, q = r := ⟨r, rfl⟩
      subst hre
      intro o20
      show EvF mtab d k_X1_gather 134 [some (.inr (.inr 141)), dv o20] [] (SH L0, D21) (none, (SH L0, t0))
      obtain ⟨D22, hx, h⟩ := bnd h
      refine ev_call (e_X1_standByDensity L0 d (by omega) hx) 2 (pc' := 138) (L' := [some (.inr (.inr 141)), dv o20]) (S' := []) (fun _ _ => rfl) ?_
      obtain ⟨D23, hx, h⟩ := bnd h
      refine ev_call (e_X1_standByTrace L0 d (by omega) hx) 2 (pc' := 142) (L' := [some (.inr (.inr 141)), dv o20]) (S' := []) (fun _ _ => rfl) ?_
      cases h
      exact ev_ret 1 (fun _ _ => rfl)
    clear h
    refine ev_go 2 (pc' := 107) (L' := [some (.inr (.inr 141)), some (.inl 0)]) (S' := []) (σ' := (SH L0, D15)) (fun _ _ => rfl) ?_
    refine loop_ind (P := fun s => EvF mtab d k_X1_gather 107 [some (.inr (.inr 141)), some (.inl s.1)] [] (SH L0, s.2) (none, (SH L0, t0))) (X := fun r => ∀ (o20 : Option (Sum Int Nat)), EvF mtab d k_X1_gather 134 [some (.inr (.inr 141)), dv o20] [] (SH L0, r) (none, (SH L0, t0))) hr hX ?_
    clear hr hX
    intro s t hb hK0
    obtain ⟨l1_16, D17⟩ := s
    show EvF mtab d k_X1_gather 107 [some (.inr (.inr 141)), some (.inl l1_16)] [] (SH L0, D17) (none, (SH L0, t0))
    unfold b_X1_gather_107 at hb
    rcases ite_or hb with ⟨hc, hb⟩ | ⟨hc, hb⟩
    · refine ev_ift hc 5 (pc' := 118) (L' := [some (.inr (.inr 141)), some (.inl l1_16)]) (S' := []) (σ' := (SH L0, D17)) (fun _ _ => rfl) ?_
      obtain ⟨x18, hx, hb⟩ := bnd hb
      refine ev_bind hx 5 (pc' := 125) (L' := fun x18 => [some (.inr (.inr 141)), some (.inl l1_16)]) (S' := fun x18 => [.inl x18, .inr (.inr 141)]) (σ' := fun x18 => (SH L0, D17)) (fun _ _ => rfl) ?_
      obtain ⟨D19, hx, hb⟩ := bnd hb
      refine ev_call (e_X1_joinCaller L0 d (by omega) hx) 1 (pc' := 128) (L' := [some (.inr (.inr 141)), some (.inl l1_16)]) (S' := []) (fun _ _ => rfl) ?_
      cases hb
      exact ev_go 2 (pc' := 107) (L' := [some (.inr (.inr 141)), some (.inl (w32 (l1_16 + 1)))]) (S' := []) (σ' := (SH L0, D19)) (fun _ _ => rfl) hK0
    · refine ev_iff hc 5 (pc' := 134) (L' := [some (.inr (.inr 141)), some (.inl l1_16)]) (S' := []) (σ' := (SH L0, D17)) (fun _ _ => rfl) ?_
      cases hb
      exact hK0 (some (.inl l1_16))
  clear h
  refine ev_go 2 (pc' := 2) (L' := [some (.inr (.inr 141)), some (.inl 0)]) (S' := []) (σ' := (SH L0, D)) (fun _ _ => rfl) ?_
  refine loop_ind (P := fun s => EvF mtab d k_X1_gather 2 [some (.inr (.inr 141)), some (.inl s.1)] [] (SH L0, s.2) (none, (SH L0, t0))) (X := fun r => ∀ (o13 : Option (Sum Int Nat)), EvF mtab d k_X1_gather 87 [some (.inr (.inr 141)), dv o13] [] (SH L0, r) (none, (SH L0, t0))) hr hX ?_
  clear hr hX
  intro s t hb hK0
  obtain ⟨l1_1, D2⟩ := s
  show EvF mtab d k_X1_gather 2 [some (.inr (.inr 141)), some (.inl l1_1)] [] (SH L0, D2) (none, (SH L0, t0))
  unfold b_X1_gather_2 at hb
  rcases ite_or hb with ⟨hc, hb⟩ | ⟨hc, hb⟩
  · refine ev_ift hc 5 (pc' := 13) (L' := [some (.inr (.inr 141)), some (.inl l1_1)]) (S' := []) (σ' := (SH L0, D2)) (fun _ _ => rfl) ?_
    obtain ⟨D3, hx, hb⟩ := bnd hb
    refine ev_bind hx 5 (pc' := 20) (L' := fun D3 => [some (.inr (.inr 141)), some (.inl l1_1)]) (S' := fun D3 => []) (σ' := fun D3 => (SH L0, D3)) (fun _ _ => rfl) ?_
    obtain ⟨D4, hx, hb⟩ := bnd hb
    refine ev_bind hx 5 (pc' := 27) (L' := fun D4 => [some (.inr (.inr 141)), some (.inl l1_1)]) (S' := fun D4 => []) (σ' := fun D4 => (SH L0, D4)) (fun _ _ => rfl) ?_
    obtain ⟨D5, hx, hb⟩ := bnd hb
    refine ev_bind hx 5 (pc' := 34) (L' := fun D5 => [some (.inr (.inr 141)), some (.inl l1_1)]) (S' := fun D5 => []) (σ' := fun D5 => (SH L0, D5)) (fun _ _ => rfl) ?_
    obtain ⟨x6, hx, hb⟩ := bnd hb
    refine ev_call (e_X7_entryOf_4 L0 d (by omega) hx) 10 (pc' := 54) (L' := [some (.inr (.inr 141)), some (.inl l1_1)]) (S' := [.inr (.inr 125), .inl l1_1, .inr (.inr 149)]) (fun _ _ => rfl) ?_
    obtain ⟨x7, hx, hb⟩ := bnd hb
    refine ev_bind hx 1 (pc' := 55) (L' := fun x7 => [some (.inr (.inr 141)), some (.inl l1_1)]) (S' := fun x7 => [.inl x7, .inl l1_1, .inr (.inr 149)]) (σ' := fun x7 => (SH L0, D5)) (fun _ _ => rfl) ?_
    obtain ⟨D8, hx, hb⟩ := bnd hb
    refine ev_bind hx 1 (pc' := 56) (L' := fun D8 => [some (.inr (.inr 141)), some (.inl l1_1)]) (S' := fun D8 => []) (σ' := fun D8 => (SH L0, D8)) (fun _ _ => rfl) ?_
    obtain ⟨x9, hx, hb⟩ := bnd hb
    refine ev_call (e_X7_bytesOf L0 d (by omega) hx) 7 (pc' := 69) (L' := [some (.inr (.inr 141)), some (.inl l1_1)]) (S' := [.inl l1_1, .inr (.inr 150)]) (fun _ _ => rfl) ?_
    obtain ⟨D10, hx, hb⟩ := bnd hb
    refine ev_bind hx 1 (pc' := 70) (L' := fun D10 => [some (.inr (.inr 141)), some (.inl l1_1)]) (S' := fun D10 => []) (σ' := fun D10 => (SH L0, D10)) (fun _ _ => rfl) ?_
    obtain ⟨x11, hx, hb⟩ := bnd hb
    refine ev_call (e_X1_seekCaller L0 d (by omega) hx) 6 (pc' := 80) (L' := [some (.inr (.inr 141)), some (.inl l1_1)]) (S' := [.inl l1_1, .inr (.inr 145)]) (fun _ _ => rfl) ?_
    obtain ⟨D12, hx, hb⟩ := bnd hb
    refine ev_bind hx 1 (pc' := 81) (L' := fun D12 => [some (.inr (.inr 141)), some (.inl l1_1)]) (S' := fun D12 => []) (σ' := fun D12 => (SH L0, D12)) (fun _ _ => rfl) ?_
    cases hb
    exact ev_go 2 (pc' := 2) (L' := [some (.inr (.inr 141)), some (.inl (w32 (l1_1 + 1)))]) (S' := []) (σ' := (SH L0, D12)) (fun _ _ => rfl) hK0
  · refine ev_iff hc 5 (pc' := 87) (L' := [some (.inr (.inr 141)), some (.inl l1_1)]) (S' := []) (σ' := (SH L0, D2)) (fun _ _ => rfl) ?_
    cases hb
    exact hK0 (some (.inl l1_1))
set_option maxRecDepth 100000 in
set_option maxHeartbeats 4000000 in
theorem e_X2_listArcs (L0 d : Nat) (hd : 2 ≤ d) {p1 : Int} {D : DT} {t0 : (Int × DT)} (h : m_X2_listArcs p1 D = some t0) : Ret mtab d 24 [.inr (.inr 122), .inl p1] (SH L0, D) (some (.inl t0.1), (SH L0, t0.2)) := by
  obtain ⟨d, rfl⟩ : ∃ e, d = e + 1 := ⟨d - 1, by omega⟩
  refine Ret.of (code := k_X2_listArcs) (ml := 6) rfl ?_
  show EvF mtab d k_X2_listArcs 0 [some (.inr (.inr 122)), some (.inl p1), none, none, none, none] [] (SH L0, D) (some (.inl t0.1), (SH L0, t0.2))
  unfold m_X2_listArcs at h
  obtain ⟨D1, hx, h⟩ := bnd h
  refine ev_bind hx 7 (pc' := 9) (L' := fun D1 => [some (.inr (.inr 122)), some (.inl p1), some (.inl 0), none, none, none]) (S' := fun D1 => []) (σ' := fun D1 => (SH L0, D1)) (fun _ _ => rfl) ?_
  obtain ⟨r, hr, h⟩ := bnd h
  have hX : (fun (r : (Int × DT)) => ∀ (o19 : Option (Sum Int Nat)) (o20 : Option (Sum Int Nat)) (o21 : Option (Sum Int Nat)), EvF mtab d k_X2_listArcs 95 [some (.inr (.inr 122)), some (.inl p1), some (.inl r.1), dv o19, dv o20, dv o21] [] (SH L0, r.2) (some (.inl t0.1), (SH L0, t0.2))) r := by
    obtain ⟨l2_18, D22⟩ := r
    intro o19 o20 o21
    show EvF mtab d k_X2_listArcs 95 [some (.inr (.inr 122)), some (.inl p1), some (.inl l2_18), dv o19, dv o20, dv o21] [] (SH L0, D22) (some (.inl t0.1), (SH L0, t0.2))
    cases h
    exact ev_ret 2 (fun _ _ => rfl)
  clear h
  refine ev_go 3 (pc' := 14) (L' := [some (.inr (.inr 122)), some (.inl p1), some (.inl (w32 (0 + 1))), some (.inl 0), none, none]) (S' := []) (σ' := (SH L0, D1)) (fun _ _ => rfl) ?_
  refine loop_ind (P := fun s => ∀ (o4 : Option (Sum Int Nat)) (o5 : Option (Sum Int Nat)), EvF mtab d k_X2_listArcs 14 [some (.inr (.inr 122)), some (.inl p1), some (.inl s.1), some (.inl s.2.1), dv o4, dv o5] [] (SH L0, s.2.2) (some (.inl t0.1), (SH L0, t0.2))) (X := fun r => ∀ (o19 : Option (Sum Int Nat)) (o20 : Option (Sum Int Nat)) (o21 : Option (Sum Int Nat)), EvF mtab d k_X2_listArcs 95 [some (.inr (.inr 122)), some (.inl p1), some (.inl r.1), dv o19, dv o20, dv o21] [] (SH L0, r.2) (some (.inl t0.1), (SH L0, t0.2))) hr hX ?_ none none
  clear hr hX
  intro s t hb hK0
  obtain ⟨l2_2, l3_3, D6⟩ := s
  intro o4 o5
  show EvF mtab d k_X2_listArcs 14 [some (.inr (.inr 122)), some (.inl p1), some (.inl l2_2), some (.inl l3_3), dv o4, dv o5] [] (SH L0, D6) (some (.inl t0.1), (SH L0, t0.2))
  unfold b_X2_listArcs_14 at hb
  obtain ⟨x7, hx, hb⟩ := bnd hb
  refine ev_bind hx 6 (pc' := 24) (L' := fun x7 => [some (.inr (.inr 122)), some (.inl p1), some (.inl l2_2), some (.inl l3_3), dv o4, dv o5]) (S' := fun x7 => [.inl x7, .inl l3_3]) (σ' := fun x7 => (SH L0, D6)) (fun _ _ => rfl) ?_
  rcases ite_or hb with ⟨hc, hb⟩ | ⟨hc, hb⟩
  · refine ev_ift hc 1 (pc' := 27) (L' := [some (.inr (.inr 122)), some (.inl p1), some (.inl l2_2), some (.inl l3_3), dv o4, dv o5]) (S' := []) (σ' := (SH L0, D6)) (fun _ _ => rfl) ?_
    obtain ⟨x8, hx, hb⟩ := bnd hb
    refine ev_call (e_X7_member_4 L0 d (by omega) hx) 5 (pc' := 36) (L' := [some (.inr (.inr 122)), some (.inl p1), some (.inl l2_2), some (.inl l3_3), dv o4, dv o5]) (S' := []) (fun _ _ => rfl) ?_
    obtain ⟨r, hr, hb⟩ := bnd hb
    have hX : (fun (r : (Int × DT)) => ∀ (o16 : Option (Sum Int Nat)), EvF mtab d k_X2_listArcs 89 [some (.inr (.inr 122)), some (.inl p1), some (.inl r.1), some (.inl l3_3), some (.inl x8), dv o16] [] (SH L0, r.2) (some (.inl t0.1), (SH L0, t0.2))) r := by
      obtain ⟨l2_15, D17⟩ := r
      intro o16
      show EvF mtab d k_X2_listArcs 89 [some (.inr (.inr 122)), some (.inl p1), some (.inl l2_15), some (.inl l3_3), some (.inl x8), dv o16] [] (SH L0, D17) (some (.inl t0.1), (SH L0, t0.2))
      cases hb
      exact ev_go 2 (pc' := 14) (L' := [some (.inr (.inr 122)), some (.inl p1), some (.inl l2_15), some (.inl (w32 (l3_3 + 1))), some (.inl x8), dv o16]) (S' := []) (σ' := (SH L0, D17)) (fun _ _ => rfl) (hK0 (some (.inl x8)) o16)
    clear hb
    refine ev_go 3 (pc' := 41) (L' := [some (.inr (.inr 122)), some (.inl p1), some (.inl l2_2), some (.inl l3_3), some (.inl x8), some (.inl 0)]) (S' := []) (σ' := (SH L0, D6)) (fun _ _ => rfl) ?_
    refine loop_ind (P := fun s => EvF mtab d k_X2_listArcs 41 [some (.inr (.inr 122)), some (.inl p1), some (.inl s.1), some (.inl l3_3), some (.inl x8), some (.inl s.2.1)] [] (SH L0, s.2.2) (some (.inl t0.1), (SH L0, t0.2))) (X := fun r => ∀ (o16 : Option (Sum Int Nat)), EvF mtab d k_X2_listArcs 89 [some (.inr (.inr 122)), some (.inl p1), some (.inl r.1), some (.inl l3_3), some (.inl x8), dv o16] [] (SH L0, r.2) (some (.inl t0.1), (SH L0, t0.2))) hr hX ?_
    clear hr hX
    intro s t hb hK1
    obtain ⟨l2_9, l5_10, D11⟩ := s
    show EvF mtab d k_X2_listArcs 41 [some (.inr (.inr 122)), some (.inl p1), some (.inl l2_9), some (.inl l3_3), some (.inl x8), some (.inl l5_10)] [] (SH L0, D11) (some (.inl t0.1), (SH L0, t0.2))
    unfold b_X2_listArcs_41 at hb
    obtain ⟨x12, hx, hb⟩ := bnd hb
    refine ev_call (e_X7_arcsOf L0 d (by omega) hx) 5 (pc' := 52) (L' := [some (.inr (.inr 122)), some (.inl p1), some (.inl l2_9), some (.inl l3_3), some (.inl x8), some (.inl l5_10)]) (S' := [.inl l5_10]) (fun _ _ => rfl) ?_
    rcases ite_or hb with ⟨hc, hb⟩ | ⟨hc, hb⟩
    · refine ev_ift hc 1 (pc' := 55) (L' := [some (.inr (.inr 122)), some (.inl p1), some (.inl l2_9), some (.inl l3_3), some (.inl x8), some (.inl l5_10)]) (S' := []) (σ' := (SH L0, D11)) (fun _ _ => rfl) ?_
      rcases ite_or hb with ⟨hc, hb⟩ | ⟨hc, hb⟩
      · refine ev_ift hc 3 (pc' := 61) (L' := [some (.inr (.inr 122)), some (.inl p1), some (.inl l2_9), some (.inl l3_3), some (.inl x8), some (.inl l5_10)]) (S' := []) (σ' := (SH L0, D11)) (fun _ _ => rfl) ?_
        obtain ⟨x13, hx, hb⟩ := bnd hb
        refine ev_bind hx 8 (pc' := 76) (L' := fun x13 => [some (.inr (.inr 122)), some (.inl p1), some (.inl l2_9), some (.inl l3_3), some (.inl x8), some (.inl l5_10)]) (S' := fun x13 => [.inl x13, .inl l2_9, .inr (.inr 126)]) (σ' := fun x13 => (SH L0, D11)) (fun _ _ => rfl) ?_
        obtain ⟨D14, hx, hb⟩ := bnd hb
        refine ev_bind hx 3 (pc' := 80) (L' := fun D14 => [some (.inr (.inr 122)), some (.inl p1), some (.inl l2_9), some (.inl l3_3), some (.inl x8), some (.inl l5_10)]) (S' := fun D14 => []) (σ' := fun D14 => (SH L0, D14)) (fun _ _ => rfl) ?_
        cases hb
        exact ev_go 3 (pc' := 41) (L' := [some (.inr (.inr 122)), some (.inl p1), some (.inl (w32 (l2_9 + 1))), some (.inl l3_3), some (.inl x8), some (.inl (w32 (l5_10 + 1)))]) (S' := []) (σ' := (SH L0, D14)) (fun _ _ => rfl) hK1
      · refine ev_iff hc 3 (pc' := 89) (L' := [some (.inr (.inr 122)), some (.inl p1), some (.inl l2_9), some (.inl l3_3), some (.inl x8), some (.inl l5_10)]) (S' := []) (σ' := (SH L0, D11)) (fun _ _ => rfl) ?_
        cases hb
        exact hK1 (some (.inl l5_10))
    · refine ev_iff hc 1 (pc' := 89) (L' := [some (.inr (.inr 122)), some (.inl p1), some (.inl l2_9), some (.inl l3_3), some (.inl x8), some (.inl l5_10)]) (S' := []) (σ' := (SH L0, D11)) (fun _ _ => rfl) ?_
      cases hb
      exact hK1 (some (.inl l5_10))
  · refine ev_iff hc 1 (pc' := 95) (L' := [some (.inr (.inr 122)), some (.inl p1), some (.inl l2_2), some (.inl l3_3), dv o4, dv o5]) (S' := []) (σ' := (SH L0, D6)) (fun _ _ => rfl) ?_
    cases hb
    exact hK0 (some (.inl l3_3)) o4 o5
set_option maxRecDepth 100000 in
set_option maxHeartbeats 4000000 in
theorem e_X2_loosenNode (L0 d : Nat) (hd : 1 ≤ d) {p1 : Int} {D : DT} {t0 : DT} (h : m_X2_loosenNode p1 D = some t0) : Ret mtab d 26 [.inr (.inr 122), .inl p1] (SH L0, D) (none, (SH L0, t0)) := by
  obtain ⟨d, rfl⟩ : ∃ e, d = e + 1 := ⟨d - 1, by omega⟩
  refine Ret.of (code := k_X2_loosenNode) (ml := 2) rfl ?_
  show EvF mtab d k_X2_loosenNode 0 [some (.inr (.inr 122)), some (.inl p1)] [] (SH L0, D) (none, (SH L0, t0))
  unfold m_X2_loosenNode at h
  obtain ⟨D1, hx, h⟩ := bnd h
  refine ev_bind hx 5 (pc' := 7) (L' := fun D1 => [some (.inr (.inr 122)), some (.inl p1)]) (S' := fun D1 => []) (σ' := fun D1 => (SH L0, D1)) (fun _ _ => rfl) ?_
  obtain ⟨D2, hx, h⟩ := bnd h
  refine ev_bind hx 5 (pc' := 14) (L' := fun D2 => [some (.inr (.inr 122)), some (.inl p1)]) (S' := fun D2 => []) (σ' := fun D2 => (SH L0, D2)) (fun _ _ => rfl) ?_
  obtain ⟨D3, hx, h⟩ := bnd h
  refine ev_bind hx 5 (pc' := 21) (L' := fun D3 => [some (.inr (.inr 122)), some (.inl p1)]) (S' := fun D3 => []) (σ' := fun D3 => (SH L0, D3)) (fun _ _ => rfl) ?_
  cases h
  exact ev_ret 1 (fun _ _ => rfl)
set_option maxRecDepth 100000 in
set_option maxHeartbeats 4000000 in
theorem e_X2_loosen (L0 d : Nat) (hd : 2 ≤ d) {p1 : Int} {D : DT} {t0 : DT} (h : m_X2_loosen p1 D = some t0) : Ret mtab d 25 [.inr (.inr 122), .inl p1] (SH L0, D) (none, (SH L0, t0)) := by
  obtain ⟨d, rfl⟩ : ∃ e, d = e + 1 := ⟨d - 1, by omega⟩
  refine Ret.of (code := k_X2_loosen) (ml := 4) rfl ?_
  show EvF mtab d k_X2_loosen 0 [some (.inr (.inr 122)), some (.inl p1), none, none] [] (SH L0, D) (none, (SH L0, t0))
  unfold m_X2_loosen at h
  obtain ⟨r, hr, h⟩ := bnd h
  have hX : (fun (r : DT) => ∀ (o8 : Option (Sum Int Nat)) (o9 : Option (Sum Int Nat)), EvF mtab d k_X2_loosen 43 [some (.inr (.inr 122)), some (.inl p1), dv o8, dv o9] [] (SH L0, r) (none, (SH L0, t0))) r := by
    obtain ⟨D10, hre⟩ : ∃ q, q = r := ⟨r, rfl⟩
    subst hre
    intro o8 o9
    show EvF mtab d k_X2_loosen 43 [some (.inr (.inr 122)), some (.inl p1), dv o8, dv o9] [] (SH L0, D10) (none, (SH L0, t0))
    obtain ⟨D11, hx, h⟩ := bnd h
    refine ev_call (e_X2_loosenNode L0 d (by omega) hx) 3 (pc' := 49) (L' := [some (.inr (.inr 122)), some (.inl p1), dv o8, dv o9]) (S' := []) (fun _ _ => rfl) ?_
    cases h
    exact ev_ret 1 (fun _ _ => rfl)
  clear h
  refine ev_go 2 (pc' := 2) (L' := [some (.inr (.inr 122)), some (.inl p1), some (.inl 0), none]) (S' := []) (σ' := (SH L0, D)) (fun _ _ => rfl) ?_
  refine loop_ind (P := fun s => ∀ (o2 : Option (Sum Int Nat)), EvF mtab d k_X2_loosen 2 [some (.inr (.inr 122)), some (.inl p1), some (.inl s.1), dv o2] [] (SH L0, s.2) (none, (SH L0, t0))) (X := fun r => ∀ (o8 : Option (Sum Int Nat)) (o9 : Option (Sum Int Nat)), EvF mtab d k_X2_loosen 43 [some (.inr (.inr 122)), some (.inl p1), dv o8, dv o9] [] (SH L0, r) (none, (SH L0, t0))) hr hX ?_ none
  clear hr hX
  intro s t hb hK0
  obtain ⟨l2_1, D3⟩ := s
  intro o2
  show EvF mtab d k_X2_loosen 2 [some (.inr (.inr 122)), some (.inl p1), some (.inl l2_1), dv o2] [] (SH L0, D3) (none, (SH L0, t0))
  unfold b_X2_loosen_2 at hb
  obtain ⟨x4, hx, hb⟩ := bnd hb
  refine ev_bind hx 6 (pc' := 12) (L' := fun x4 => [some (.inr (.inr 122)), some (.inl p1), some (.inl l2_1), dv o2]) (S' := fun x4 => [.inl x4, .inl l2_1]) (σ' := fun x4 => (SH L0, D3)) (fun _ _ => rfl) ?_
  rcases ite_or hb with ⟨hc, hb⟩ | ⟨hc, hb⟩
  · refine ev_ift hc 1 (pc' := 15) (L' := [some (.inr (.inr 122)), some (.inl p1), some (.inl l2_1), dv o2]) (S' := []) (σ' := (SH L0, D3)) (fun _ _ => rfl) ?_
    obtain ⟨x5, hx, hb⟩ := bnd hb
    refine ev_call (e_X7_member_4 L0 d (by omega) hx) 5 (pc' := 24) (L' := [some (.inr (.inr 122)), some (.inl p1), some (.inl l2_1), dv o2]) (S' := []) (fun _ _ => rfl) ?_
    obtain ⟨D6, hx, hb⟩ := bnd hb
    refine ev_bind hx 6 (pc' := 32) (L' := fun D6 => [some (.inr (.inr 122)), some (.inl p1), some (.inl l2_1), some (.inl x5)]) (S' := fun D6 => []) (σ' := fun D6 => (SH L0, D6)) (fun _ _ => rfl) ?_
    obtain ⟨D7, hx, hb⟩ := bnd hb
    refine ev_call (e_X2_loosenNode L0 d (by omega) hx) 3 (pc' := 37) (L' := [some (.inr (.inr 122)), some (.inl p1), some (.inl l2_1), some (.inl x5)]) (S' := []) (fun _ _ => rfl) ?_
    cases hb
    exact ev_go 2 (pc' := 2) (L' := [some (.inr (.inr 122)), some (.inl p1), some (.inl (w32 (l2_1 + 1))), some (.inl x5)]) (S' := []) (σ' := (SH L0, D7)) (fun _ _ => rfl) (hK0 (some (.inl x5)))
  · refine ev_iff hc 1 (pc' := 43) (L' := [some (.inr (.inr 122)), some (.inl p1), some (.inl l2_1), dv o2]) (S' := []) (σ' := (SH L0, D3)) (fun _ _ => rfl) ?_
    cases hb
    exact hK0 (some (.inl l2_1)) o2
set_option maxRecDepth 100000 in
set_option maxHeartbeats 4000000 in
theorem e_X2_nodeOf (L0 d : Nat) (hd : 1 ≤ d) {p0 : Int} {D : DT} {t0 : Int} (h : m_X2_nodeOf p0 D = some t0) : Ret mtab d 27 [.inl p0] (SH L0, D) (some (.inl t0), (SH L0, D)) := by
  obtain ⟨d, rfl⟩ : ∃ e, d = e + 1 := ⟨d - 1, by omega⟩
  refine Ret.of (code := k_X2_nodeOf) (ml := 1) rfl ?_
  show EvF mtab d k_X2_nodeOf 0 [some (.inl p0)] [] (SH L0, D) (some (.inl t0), (SH L0, D))
  unfold m_X2_nodeOf at h
  rcases ite_or h with ⟨hc, h⟩ | ⟨hc, h⟩
  · refine ev_ift hc 3 (pc' := 5) (L' := [some (.inl p0)]) (S' := []) (σ' := (SH L0, D)) (fun _ _ => rfl) ?_
    cases h
    exact ev_ret 3 (fun _ _ => rfl)
  · refine ev_iff hc 3 (pc' := 10) (L' := [some (.inl p0)]) (S' := []) (σ' := (SH L0, D)) (fun _ _ => rfl) ?_
    cases h
    exact ev_ret 2 (fun _ _ => rfl)
set_option maxRecDepth 100000 in
set_option maxHeartbeats 4000000 in
theorem e_X2_bind (L0 d : Nat) (hd : 2 ≤ d) {p1 p2 p3 : Int} {D : DT} {t0 : DT} (h : m_X2_bind p1 p2 p3 D = some t0) : Ret mtab d 29 [.inr (.inr 122), .inl p1, .inl p2, .inl p3] (SH L0, D) (none, (SH L0, t0)) := by
  obtain ⟨d, rfl⟩ : ∃ e, d = e + 1 := ⟨d - 1, by omega⟩
  refine Ret.of (code := k_X2_bind) (ml := 6) rfl ?_
  show EvF mtab d k_X2_bind 0 [some (.inr (.inr 122)), some (.inl p1), some (.inl p2), some (.inl p3), none, none] [] (SH L0, D) (none, (SH L0, t0))
  unfold m_X2_bind at h
  obtain ⟨r, hr, h⟩ := bnd h
  have hX : (fun (r : DT) => ∀ (o9 : Option (Sum Int Nat)) (o10 : Option (Sum Int Nat)), EvF mtab d k_X2_bind 54 [some (.inr (.inr 122)), some (.inl p1), some (.inl p2), some (.inl p3), dv o9, dv o10] [] (SH L0, r) (none, (SH L0, t0))) r := by
    obtain ⟨D11, hre⟩ : ∃ q, q = r := ⟨r, rfl⟩
    subst hre
    intro o9 o10
    show EvF mtab d k_X2_bind 54 [some (.inr (.inr 122)), some (.inl p1), some (.inl p2), some (.inl p3), dv o9, dv o10] [] (SH L0, D11) (none, (SH L0, t0))
    obtain ⟨x12, hx, h⟩ := bnd h
    refine ev_bind hx 4 (pc' := 61) (L' := fun x12 => [some (.inr (.inr 122)), some (.inl p1), some (.inl p2), some (.inl p3), dv o9, dv o10]) (S' := fun x12 => [.inl x12]) (σ' := fun x12 => (SH L0, D11)) (fun _ _ => rfl) ?_
    rcases ite_or h with ⟨hc, h⟩ | ⟨hc, h⟩
    · refine ev_ift hc 2 (pc' := 65) (L' := [some (.inr (.inr 122)), some (.inl p1), some (.inl p2), some (.inl p3), dv o9, dv o10]) (S' := []) (σ' := (SH L0, D11)) (fun _ _ => rfl) ?_
      obtain ⟨D13, hx, h⟩ := bnd h
      refine ev_bind hx 5 (pc' := 73) (L' := fun D13 => [some (.inr (.inr 122)), some (.inl p1), some (.inl p2), some (.inl p3), dv o9, dv o10]) (S' := fun D13 => []) (σ' := fun D13 => (SH L0, D13)) (fun _ _ => rfl) ?_
      cases h
      exact ev_ret 1 (fun _ _ => rfl)
    · refine ev_iff hc 2 (pc' := 73) (L' := [some (.inr (.inr 122)), some (.inl p1), some (.inl p2), some (.inl p3), dv o9, dv o10]) (S' := []) (σ' := (SH L0, D11)) (fun _ _ => rfl) ?_
      cases h
      exact ev_ret 1 (fun _ _ => rfl)
  clear h
  refine ev_go 2 (pc' := 3) (L' := [some (.inr (.inr 122)), some (.inl p1), some (.inl p2), some (.inl p3), some (.inl 0), none]) (S' := []) (σ' := (SH L0, D)) (fun _ _ => rfl) ?_
  refine loop_ind (P := fun s => ∀ (o2 : Option (Sum Int Nat)), EvF mtab d k_X2_bind 3 [some (.inr (.inr 122)), some (.inl p1), some (.inl p2), some (.inl p3), some (.inl s.1), dv o2] [] (SH L0, s.2) (none, (SH L0, t0))) (X := fun r => ∀ (o9 : Option (Sum Int Nat)) (o10 : Option (Sum Int Nat)), EvF mtab d k_X2_bind 54 [some (.inr (.inr 122)), some (.inl p1), some (.inl p2), some (.inl p3), dv o9, dv o10] [] (SH L0, r) (none, (SH L0, t0))) hr hX ?_ none
  clear hr hX
  intro s t hb hK0
  obtain ⟨l4_1, D3⟩ := s
  intro o2
  show EvF mtab d k_X2_bind 3 [some (.inr (.inr 122)), some (.inl p1), some (.inl p2), some (.inl p3), some (.inl l4_1), dv o2] [] (SH L0, D3) (none, (SH L0, t0))
  unfold b_X2_bind_3 at hb
  obtain ⟨x4, hx, hb⟩ := bnd hb
  refine ev_bind hx 6 (pc' := 14) (L' := fun x4 => [some (.inr (.inr 122)), some (.inl p1), some (.inl p2), some (.inl p3), some (.inl l4_1), dv o2]) (S' := fun x4 => [.inl x4, .inl l4_1]) (σ' := fun x4 => (SH L0, D3)) (fun _ _ => rfl) ?_
  rcases ite_or hb with ⟨hc, hb⟩ | ⟨hc, hb⟩
  · refine ev_ift hc 1 (pc' := 17) (L' := [some (.inr (.inr 122)), some (.inl p1), some (.inl p2), some (.inl p3), some (.inl l4_1), dv o2]) (S' := []) (σ' := (SH L0, D3)) (fun _ _ => rfl) ?_
    obtain ⟨x5, hx, hb⟩ := bnd hb
    refine ev_call (e_X7_member_4 L0 d (by omega) hx) 5 (pc' := 27) (L' := [some (.inr (.inr 122)), some (.inl p1), some (.inl p2), some (.inl p3), some (.inl l4_1), dv o2]) (S' := []) (fun _ _ => rfl) ?_
    obtain ⟨x6, hx, hb⟩ := bnd hb
    refine ev_bind hx 5 (pc' := 36) (L' := fun x6 => [some (.inr (.inr 122)), some (.inl p1), some (.inl p2), some (.inl p3), some (.inl l4_1), some (.inl x5)]) (S' := fun x6 => [.inl x6]) (σ' := fun x6 => (SH L0, D3)) (fun _ _ => rfl) ?_
    obtain ⟨D8, hv, hb⟩ := bnd hb
    have hJ : EvF mtab d k_X2_bind 48 [some (.inr (.inr 122)), some (.inl p1), some (.inl p2), some (.inl p3), some (.inl l4_1), some (.inl x5)] [] (SH L0, D8) (none, (SH L0, t0)) := by
      cases hb
      exact ev_go 2 (pc' := 3) (L' := [some (.inr (.inr 122)), some (.inl p1), some (.inl p2), some (.inl p3), some (.inl (w32 (l4_1 + 1))), some (.inl x5)]) (S' := []) (σ' := (SH L0, D8)) (fun _ _ => rfl) (hK0 (some (.inl x5)))
    clear hb
    rcases ite_or hv with ⟨hc, hv⟩ | ⟨hc, hv⟩
    · refine ev_ift hc 2 (pc' := 40) (L' := [some (.inr (.inr 122)), some (.inl p1), some (.inl p2), some (.inl p3), some (.inl l4_1), some (.inl x5)]) (S' := []) (σ' := (SH L0, D3)) (fun _ _ => rfl) ?_
      obtain ⟨D7, hx, hv⟩ := bnd hv
      refine ev_bind hx 5 (pc' := 48) (L' := fun D7 => [some (.inr (.inr 122)), some (.inl p1), some (.inl p2), some (.inl p3), some (.inl l4_1), some (.inl x5)]) (S' := fun D7 => []) (σ' := fun D7 => (SH L0, D7)) (fun _ _ => rfl) ?_
      have he0 := Option.some.inj hv
      subst he0
      exact hJ
    · refine ev_iff hc 2 (pc' := 48) (L' := [some (.inr (.inr 122)), some (.inl p1), some (.inl p2), some (.inl p3), some (.inl l4_1), some (.inl x5)]) (S' := []) (σ' := (SH L0, D3)) (fun _ _ => rfl) ?_
      have he0 := Option.some.inj hv
      subst he0
      exact hJ
  · refine ev_iff hc 1 (pc' := 54) (L' := [some (.inr (.inr 122)), some (.inl p1), some (.inl p2), some (.inl p3), some (.inl l4_1), dv o2]) (S' := []) (σ' := (SH L0, D3)) (fun _ _ => rfl) ?_
    cases hb
    exact hK0 (some (.inl l4_1)) o2
set_option maxRecDepth 100000 in
set_option maxHeartbeats 4000000 in
theorem e_X2_carry (L0 d : Nat) (hd : 1 ≤ d) {p1 p2 p3 p4 : Int} {D : DT} {t0 : DT} (h : m_X2_carry p1 p2 p3 p4 D = some t0) : Ret mtab d 30 [.inr (.inr 122), .inl p1, .inl p2, .inl p3, .inl p4] (SH L0, D) (none, (SH L0, t0)) := by
  obtain ⟨d, rfl⟩ : ∃ e, d = e + 1 := ⟨d - 1, by omega⟩
  refine Ret.of (code := k_X2_carry) (ml := 5) rfl ?_
  show EvF mtab d k_X2_carry 0 [some (.inr (.inr 122)), some (.inl p1), some (.inl p2), some (.inl p3), some (.inl p4)] [] (SH L0, D) (none, (SH L0, t0))
  unfold m_X2_carry at h
  obtain ⟨D1, hx, h⟩ := bnd h
  refine ev_bind hx 5 (pc' := 8) (L' := fun D1 => [some (.inr (.inr 122)), some (.inl p1), some (.inl p2), some (.inl p3), some (.inl p4)]) (S' := fun D1 => []) (σ' := fun D1 => (SH L0, D1)) (fun _ _ => rfl) ?_
  obtain ⟨x2, hx, h⟩ := bnd h
  refine ev_bind hx 5 (pc' := 15) (L' := fun x2 => [some (.inr (.inr 122)), some (.inl p1), some (.inl p2), some (.inl p3), some (.inl p4)]) (S' := fun x2 => [.inl x2, .inl p2, .inr (.inr 130)]) (σ' := fun x2 => (SH L0, D1)) (fun _ _ => rfl) ?_
  obtain ⟨D3, hx, h⟩ := bnd h
  refine ev_bind hx 3 (pc' := 19) (L' := fun D3 => [some (.inr (.inr 122)), some (.inl p1), some (.inl p2), some (.inl p3), some (.inl p4)]) (S' := fun D3 => []) (σ' := fun D3 => (SH L0, D3)) (fun _ _ => rfl) ?_
  obtain ⟨x4, hx, h⟩ := bnd h
  refine ev_bind hx 5 (pc' := 26) (L' := fun x4 => [some (.inr (.inr 122)), some (.inl p1), some (.inl p2), some (.inl p3), some (.inl p4)]) (S' := fun x4 => [.inl x4, .inl p3, .inr (.inr 130)]) (σ' := fun x4 => (SH L0, D3)) (fun _ _ => rfl) ?_
  obtain ⟨D5, hx, h⟩ := bnd h
  refine ev_bind hx 3 (pc' := 30) (L' := fun D5 => [some (.inr (.inr 122)), some (.inl p1), some (.inl p2), some (.inl p3), some (.inl p4)]) (S' := fun D5 => []) (σ' := fun D5 => (SH L0, D5)) (fun _ _ => rfl) ?_
  cases h
  exact ev_ret 1 (fun _ _ => rfl)
set_option maxRecDepth 100000 in
set_option maxHeartbeats 4000000 in
theorem e_X2_look (L0 d : Nat) (hd : 3 ≤ d) {p1 p2 : Int} {D : DT} {t0 : DT} (h : m_X2_look p1 p2 D = some t0) : Ret mtab d 28 [.inr (.inr 122), .inl p1, .inl p2] (SH L0, D) (none, (SH L0, t0)) := by
  obtain ⟨d, rfl⟩ : ∃ e, d = e + 1 := ⟨d - 1, by omega⟩
  refine Ret.of (code := k_X2_look) (ml := 6) rfl ?_
  show EvF mtab d k_X2_look 0 [some (.inr (.inr 122)), some (.inl p1), some (.inl p2), none, none, none] [] (SH L0, D) (none, (SH L0, t0))
  unfold m_X2_look at h
  obtain ⟨x1, hx, h⟩ := bnd h
  refine ev_bind hx 5 (pc' := 9) (L' := fun x1 => [some (.inr (.inr 122)), some (.inl p1), some (.inl p2), none, none, none]) (S' := fun x1 => [.inl x1]) (σ' := fun x1 => (SH L0, D)) (fun _ _ => rfl) ?_
  obtain ⟨x2, hx, h⟩ := bnd h
  refine ev_call (e_X2_nodeOf L0 d (by omega) hx) 1 (pc' := 12) (L' := [some (.inr (.inr 122)), some (.inl p1), some (.inl p2), none, none, none]) (S' := []) (fun _ _ => rfl) ?_
  obtain ⟨x3, hx, h⟩ := bnd h
  refine ev_bind hx 6 (pc' := 22) (L' := fun x3 => [some (.inr (.inr 122)), some (.inl p1), some (.inl p2), some (.inl x2), none, none]) (S' := fun x3 => [.inl x3]) (σ' := fun x3 => (SH L0, D)) (fun _ _ => rfl) ?_
  obtain ⟨x4, hx, h⟩ := bnd h
  refine ev_call (e_X2_nodeOf L0 d (by omega) hx) 1 (pc' := 25) (L' := [some (.inr (.inr 122)), some (.inl p1), some (.inl p2), some (.inl x2), none, none]) (S' := []) (fun _ _ => rfl) ?_
  obtain ⟨x5, hx, h⟩ := bnd h
  refine ev_bind hx 5 (pc' := 33) (L' := fun x5 => [some (.inr (.inr 122)), some (.inl p1), some (.inl p2), some (.inl x2), some (.inl x4), none]) (S' := fun x5 => [.inl x5]) (σ' := fun x5 => (SH L0, D)) (fun _ _ => rfl) ?_
  obtain ⟨x6, hx, h⟩ := bnd h
  refine ev_bind hx 4 (pc' := 40) (L' := fun x6 => [some (.inr (.inr 122)), some (.inl p1), some (.inl p2), some (.inl x2), some (.inl x4), none]) (S' := fun x6 => [.inl x6, .inl x5]) (σ' := fun x6 => (SH L0, D)) (fun _ _ => rfl) ?_
  obtain ⟨t7, hv, h⟩ := bnd h
  have hJ : EvF mtab d k_X2_look 48 [some (.inr (.inr 122)), some (.inl p1), some (.inl p2), some (.inl x2), some (.inl x4), none] [.inl t7] (SH L0, D) (none, (SH L0, t0)) := by
    obtain ⟨x8, hx, h⟩ := bnd h
    obtain ⟨D9, hy, h⟩ := bnd h
    refine ev_bind2 (Y := fun x8 => awr D 124 88 p2 x8) hx hy 6 (pc' := 58) (L' := fun x8 D9 => [some (.inr (.inr 122)), some (.inl p1), some (.inl p2), some (.inl x2), some (.inl x4), some (.inl t7)]) (S' := fun x8 D9 => []) (σ' := fun x8 D9 => (SH L0, D9)) (fun _ _ => rfl) ?_
    obtain ⟨x10, hx, h⟩ := bnd h
    obtain ⟨D11, hy, h⟩ := bnd h
    refine ev_bind2 (Y := fun x10 => awr D9 127 88 p2 x10) hx hy 5 (pc' := 66) (L' := fun x10 D11 => [some (.inr (.inr 122)), some (.inl p1), some (.inl p2), some (.inl x2), some (.inl x4), some (.inl t7)]) (S' := fun x10 D11 => []) (σ' := fun x10 D11 => (SH L0, D11)) (fun _ _ => rfl) ?_
    rcases ite_or h with ⟨hc, h⟩ | ⟨hc, h⟩
    · refine ev_ift hc 2 (pc' := 113) (L' := [some (.inr (.inr 122)), some (.inl p1), some (.inl p2), some (.inl x2), some (.inl x4), some (.inl t7)]) (S' := []) (σ' := (SH L0, D11)) (fun _ _ => rfl) ?_
      obtain ⟨x12, hx, h⟩ := bnd h
      refine ev_bind hx 9 (pc' := 127) (L' := fun x12 => [some (.inr (.inr 122)), some (.inl p1), some (.inl p2), some (.inl x2), some (.inl x4), some (.inl t7)]) (S' := fun x12 => [.inl x12, .inl x4, .inl x2, .inl p2, .inr (.inr 122)]) (σ' := fun x12 => (SH L0, D11)) (fun _ _ => rfl) ?_
      obtain ⟨D13, hx, h⟩ := bnd h
      refine ev_call (e_X2_carry L0 d (by omega) hx) 1 (pc' := 130) (L' := [some (.inr (.inr 122)), some (.inl p1), some (.inl p2), some (.inl x2), some (.inl x4), some (.inl t7)]) (S' := []) (fun _ _ => rfl) ?_
      cases h
      exact ev_ret 1 (fun _ _ => rfl)
    · refine ev_iff hc 2 (pc' := 71) (L' := [some (.inr (.inr 122)), some (.inl p1), some (.inl p2), some (.inl x2), some (.inl x4), some (.inl t7)]) (S' := []) (σ' := (SH L0, D11)) (fun _ _ => rfl) ?_
      obtain ⟨x14, hx, h⟩ := bnd h
      refine ev_bind hx 5 (pc' := 78) (L' := fun x14 => [some (.inr (.inr 122)), some (.inl p1), some (.inl p2), some (.inl x2), some (.inl x4), some (.inl t7)]) (S' := fun x14 => [.inl x14, .inl x2, .inr (.inr 129)]) (σ' := fun x14 => (SH L0, D11)) (fun _ _ => rfl) ?_
      obtain ⟨D15, hx, h⟩ := bnd h
      refine ev_bind hx 3 (pc' := 81) (L' := fun D15 => [some (.inr (.inr 122)), some (.inl p1), some (.inl p2), some (.inl x2), some (.inl x4), some (.inl t7)]) (S' := fun D15 => []) (σ' := fun D15 => (SH L0, D15)) (fun _ _ => rfl) ?_
      obtain ⟨x16, hx, h⟩ := bnd h
      refine ev_bind hx 5 (pc' := 89) (L' := fun x16 => [some (.inr (.inr 122)), some (.inl p1), some (.inl p2), some (.inl x2), some (.inl x4), some (.inl t7)]) (S' := fun x16 => [.inl x16, .inl x4, .inr (.inr 129)]) (σ' := fun x16 => (SH L0, D15)) (fun _ _ => rfl) ?_
      obtain ⟨D17, hx, h⟩ := bnd h
      refine ev_bind hx 3 (pc' := 92) (L' := fun D17 => [some (.inr (.inr 122)), some (.inl p1), some (.inl p2), some (.inl x2), some (.inl x4), some (.inl t7)]) (S' := fun D17 => []) (σ' := fun D17 => (SH L0, D17)) (fun _ _ => rfl) ?_
      obtain ⟨x18, hx, h⟩ := bnd h
      refine ev_bind hx 6 (pc' := 101) (L' := fun x18 => [some (.inr (.inr 122)), some (.inl p1), some (.inl p2), some (.inl x2), some (.inl x4), some (.inl t7)]) (S' := fun x18 => [.inl x18, .inl p1, .inr (.inr 122)]) (σ' := fun x18 => (SH L0, D17)) (fun _ _ => rfl) ?_
      obtain ⟨x19, hx, h⟩ := bnd h
      refine ev_bind hx 4 (pc' := 107) (L' := fun x19 => [some (.inr (.inr 122)), some (.inl p1), some (.inl p2), some (.inl x2), some (.inl x4), some (.inl t7)]) (S' := fun x19 => [.inl x19, .inl x18, .inl p1, .inr (.inr 122)]) (σ' := fun x19 => (SH L0, D17)) (fun _ _ => rfl) ?_
      obtain ⟨D20, hx, h⟩ := bnd h
      refine ev_call (e_X2_bind L0 d (by omega) hx) 1 (pc' := 110) (L' := [some (.inr (.inr 122)), some (.inl p1), some (.inl p2), some (.inl x2), some (.inl x4), some (.inl t7)]) (S' := []) (fun _ _ => rfl) ?_
      cases h
      exact ev_ret 2 (fun _ _ => rfl)
  clear h
  rcases ite_or hv with ⟨hc, hv⟩ | ⟨hc, hv⟩
  · refine ev_ift hc 1 (pc' := 47) (L' := [some (.inr (.inr 122)), some (.inl p1), some (.inl p2), some (.inl x2), some (.inl x4), none]) (S' := []) (σ' := (SH L0, D)) (fun _ _ => rfl) ?_
    have he0 := Option.some.inj hv
    subst he0
    exact ev_go 1 (pc' := 48) (L' := [some (.inr (.inr 122)), some (.inl p1), some (.inl p2), some (.inl x2), some (.inl x4), none]) (S' := [.inl 0]) (σ' := (SH L0, D)) (fun _ _ => rfl) hJ
  · refine ev_iff hc 1 (pc' := 43) (L' := [some (.inr (.inr 122)), some (.inl p1), some (.inl p2), some (.inl x2), some (.inl x4), none]) (S' := []) (σ' := (SH L0, D)) (fun _ _ => rfl) ?_
    have he0 := Option.some.inj hv
    subst he0
    exact ev_go 2 (pc' := 48) (L' := [some (.inr (.inr 122)), some (.inl p1), some (.inl p2), some (.inl x2), some (.inl x4), none]) (S' := [.inl 1]) (σ' := (SH L0, D)) (fun _ _ => rfl) hJ
set_option maxRecDepth 100000 in
set_option maxHeartbeats 4000000 in
theorem e_X2_solve (L0 d : Nat) (hd : 2 ≤ d) {p1 : Int} {D : DT} {t0 : (Int × DT)} (h : m_X2_solve p1 D = some t0) : Ret mtab d 32 [.inr (.inr 122), .inl p1] (SH L0, D) (some (.inl t0.1), (SH L0, t0.2)) := by
  obtain ⟨d, rfl⟩ : ∃ e, d = e + 1 := ⟨d - 1, by omega⟩
  refine Ret.of (code := k_X2_solve) (ml := 5) rfl ?_
  show EvF mtab d k_X2_solve 0 [some (.inr (.inr 122)), some (.inl p1), none, none, none] [] (SH L0, D) (some (.inl t0.1), (SH L0, t0.2))
  unfold m_X2_solve at h
  obtain ⟨x1, hx, h⟩ := bnd h
  refine ev_bind hx 5 (pc' := 9) (L' := fun x1 => [some (.inr (.inr 122)), some (.inl p1), none, none, none]) (S' := fun x1 => [.inl x1]) (σ' := fun x1 => (SH L0, D)) (fun _ _ => rfl) ?_
  obtain ⟨x2, hx, h⟩ := bnd h
  refine ev_call (e_X2_nodeOf L0 d (by omega) hx) 1 (pc' := 12) (L' := [some (.inr (.inr 122)), some (.inl p1), none, none, none]) (S' := []) (fun _ _ => rfl) ?_
  obtain ⟨x3, hx, h⟩ := bnd h
  refine ev_bind hx 6 (pc' := 22) (L' := fun x3 => [some (.inr (.inr 122)), some (.inl p1), some (.inl x2), none, none]) (S' := fun x3 => [.inl x3]) (σ' := fun x3 => (SH L0, D)) (fun _ _ => rfl) ?_
  obtain ⟨x4, hx, h⟩ := bnd h
  refine ev_call (e_X2_nodeOf L0 d (by omega) hx) 1 (pc' := 25) (L' := [some (.inr (.inr 122)), some (.inl p1), some (.inl x2), none, none]) (S' := []) (fun _ _ => rfl) ?_
  obtain ⟨t6, hv, h⟩ := bnd h
  have hJ : EvF mtab d k_X2_solve 47 [some (.inr (.inr 122)), some (.inl p1), some (.inl x2), some (.inl x4), none] [.inl t6] (SH L0, D) (some (.inl t0.1), (SH L0, t0.2)) := by
    rcases ite_or h with ⟨hc, h⟩ | ⟨hc, h⟩
    · refine ev_ift hc 3 (pc' := 54) (L' := [some (.inr (.inr 122)), some (.inl p1), some (.inl x2), some (.inl x4), some (.inl t6)]) (S' := []) (σ' := (SH L0, D)) (fun _ _ => rfl) ?_
      rcases ite_or h with ⟨hc, h⟩ | ⟨hc, h⟩
      · refine ev_ift hc 3 (pc' := 70) (L' := [some (.inr (.inr 122)), some (.inl p1), some (.inl x2), some (.inl x4), some (.inl t6)]) (S' := []) (σ' := (SH L0, D)) (fun _ _ => rfl) ?_
        cases h
        exact ev_ret 2 (fun _ _ => rfl)
      · refine ev_iff hc 3 (pc' := 60) (L' := [some (.inr (.inr 122)), some (.inl p1), some (.inl x2), some (.inl x4), some (.inl t6)]) (S' := []) (σ' := (SH L0, D)) (fun _ _ => rfl) ?_
        obtain ⟨x7, hx, h⟩ := bnd h
        refine ev_bind hx 4 (pc' := 66) (L' := fun x7 => [some (.inr (.inr 122)), some (.inl p1), some (.inl x2), some (.inl x4), some (.inl t6)]) (S' := fun x7 => [.inl x7]) (σ' := fun x7 => (SH L0, D)) (fun _ _ => rfl) ?_
        rcases ite_or h with ⟨hc, h⟩ | ⟨hc, h⟩
        · refine ev_ift hc 2 (pc' := 72) (L' := [some (.inr (.inr 122)), some (.inl p1), some (.inl x2), some (.inl x4), some (.inl t6)]) (S' := []) (σ' := (SH L0, D)) (fun _ _ => rfl) ?_
          obtain ⟨t10, hv, h⟩ := bnd h
          have hJ : EvF mtab d k_X2_solve 97 [some (.inr (.inr 122)), some (.inl p1), some (.inl x2), some (.inl x4), some (.inl t6)] [.inl t10, .inl x4, .inl x2, .inl p1, .inr (.inr 122)] (SH L0, D) (some (.inl t0.1), (SH L0, t0.2)) := by
            obtain ⟨D11, hx, h⟩ := bnd h
            refine ev_call (e_X2_carry L0 d (by omega) hx) 1 (pc' := 100) (L' := [some (.inr (.inr 122)), some (.inl p1), some (.inl x2), some (.inl x4), some (.inl t6)]) (S' := []) (fun _ _ => rfl) ?_
            obtain ⟨x12, hx, h⟩ := bnd h
            obtain ⟨D13, hy, h⟩ := bnd h
            refine ev_bind2 (Y := fun x12 => awr D11 127 88 p1 x12) hx hy 5 (pc' := 107) (L' := fun x12 D13 => [some (.inr (.inr 122)), some (.inl p1), some (.inl x2), some (.inl x4), some (.inl t6)]) (S' := fun x12 D13 => []) (σ' := fun x12 D13 => (SH L0, D13)) (fun _ _ => rfl) ?_
            obtain ⟨x14, hx, h⟩ := bnd h
            refine ev_bind hx 5 (pc' := 114) (L' := fun x14 => [some (.inr (.inr 122)), some (.inl p1), some (.inl x2), some (.inl x4), some (.inl t6)]) (S' := fun x14 => [.inl x14, .inl x2, .inr (.inr 129)]) (σ' := fun x14 => (SH L0, D13)) (fun _ _ => rfl) ?_
            obtain ⟨D15, hx, h⟩ := bnd h
            refine ev_bind hx 3 (pc' := 117) (L' := fun D15 => [some (.inr (.inr 122)), some (.inl p1), some (.inl x2), some (.inl x4), some (.inl t6)]) (S' := fun D15 => []) (σ' := fun D15 => (SH L0, D15)) (fun _ _ => rfl) ?_
            obtain ⟨x16, hx, h⟩ := bnd h
            refine ev_bind hx 5 (pc' := 124) (L' := fun x16 => [some (.inr (.inr 122)), some (.inl p1), some (.inl x2), some (.inl x4), some (.inl t6)]) (S' := fun x16 => [.inl x16, .inl x4, .inr (.inr 129)]) (σ' := fun x16 => (SH L0, D15)) (fun _ _ => rfl) ?_
            obtain ⟨D17, hx, h⟩ := bnd h
            refine ev_bind hx 3 (pc' := 127) (L' := fun D17 => [some (.inr (.inr 122)), some (.inl p1), some (.inl x2), some (.inl x4), some (.inl t6)]) (S' := fun D17 => []) (σ' := fun D17 => (SH L0, D17)) (fun _ _ => rfl) ?_
            cases h
            exact ev_ret 2 (fun _ _ => rfl)
          clear h
          rcases ite_or hv with ⟨hc, hv⟩ | ⟨hc, hv⟩
          · refine ev_ift hc 6 (pc' := 91) (L' := [some (.inr (.inr 122)), some (.inl p1), some (.inl x2), some (.inl x4), some (.inl t6)]) (S' := [.inl x4, .inl x2, .inl p1, .inr (.inr 122)]) (σ' := (SH L0, D)) (fun _ _ => rfl) ?_
            obtain ⟨x8, hx, hv⟩ := bnd hv
            refine ev_bind hx 4 (pc' := 97) (L' := fun x8 => [some (.inr (.inr 122)), some (.inl p1), some (.inl x2), some (.inl x4), some (.inl t6)]) (S' := fun x8 => [.inl x8, .inl x4, .inl x2, .inl p1, .inr (.inr 122)]) (σ' := fun x8 => (SH L0, D)) (fun _ _ => rfl) ?_
            have he0 := Option.some.inj hv
            subst he0
            exact hJ
          · refine ev_iff hc 6 (pc' := 81) (L' := [some (.inr (.inr 122)), some (.inl p1), some (.inl x2), some (.inl x4), some (.inl t6)]) (S' := [.inl x4, .inl x2, .inl p1, .inr (.inr 122)]) (σ' := (SH L0, D)) (fun _ _ => rfl) ?_
            obtain ⟨x9, hx, hv⟩ := bnd hv
            refine ev_bind hx 4 (pc' := 87) (L' := fun x9 => [some (.inr (.inr 122)), some (.inl p1), some (.inl x2), some (.inl x4), some (.inl t6)]) (S' := fun x9 => [.inl x9, .inl x4, .inl x2, .inl p1, .inr (.inr 122)]) (σ' := fun x9 => (SH L0, D)) (fun _ _ => rfl) ?_
            have he0 := Option.some.inj hv
            subst he0
            exact ev_go 2 (pc' := 97) (L' := [some (.inr (.inr 122)), some (.inl p1), some (.inl x2), some (.inl x4), some (.inl t6)]) (S' := [.inl (w32 (-x9)), .inl x4, .inl x2, .inl p1, .inr (.inr 122)]) (σ' := (SH L0, D)) (fun _ _ => rfl) hJ
        · refine ev_iff hc 2 (pc' := 70) (L' := [some (.inr (.inr 122)), some (.inl p1), some (.inl x2), some (.inl x4), some (.inl t6)]) (S' := []) (σ' := (SH L0, D)) (fun _ _ => rfl) ?_
          cases h
          exact ev_ret 2 (fun _ _ => rfl)
    · refine ev_iff hc 3 (pc' := 72) (L' := [some (.inr (.inr 122)), some (.inl p1), some (.inl x2), some (.inl x4), some (.inl t6)]) (S' := []) (σ' := (SH L0, D)) (fun _ _ => rfl) ?_
      obtain ⟨t20, hv, h⟩ := bnd h
      have hJ : EvF mtab d k_X2_solve 97 [some (.inr (.inr 122)), some (.inl p1), some (.inl x2), some (.inl x4), some (.inl t6)] [.inl t20, .inl x4, .inl x2, .inl p1, .inr (.inr 122)] (SH L0, D) (some (.inl t0.1), (SH L0, t0.2)) := by
        obtain ⟨D21, hx, h⟩ := bnd h
        refine ev_call (e_X2_carry L0 d (by omega) hx) 1 (pc' := 100) (L' := [some (.inr (.inr 122)), some (.inl p1), some (.inl x2), some (.inl x4), some (.inl t6)]) (S' := []) (fun _ _ => rfl) ?_
        obtain ⟨x22, hx, h⟩ := bnd h
        obtain ⟨D23, hy, h⟩ := bnd h
        refine ev_bind2 (Y := fun x22 => awr D21 127 88 p1 x22) hx hy 5 (pc' := 107) (L' := fun x22 D23 => [some (.inr (.inr 122)), some (.inl p1), some (.inl x2), some (.inl x4), some (.inl t6)]) (S' := fun x22 D23 => []) (σ' := fun x22 D23 => (SH L0, D23)) (fun _ _ => rfl) ?_
        obtain ⟨x24, hx, h⟩ := bnd h
        refine ev_bind hx 5 (pc' := 114) (L' := fun x24 => [some (.inr (.inr 122)), some (.inl p1), some (.inl x2), some (.inl x4), some (.inl t6)]) (S' := fun x24 => [.inl x24, .inl x2, .inr (.inr 129)]) (σ' := fun x24 => (SH L0, D23)) (fun _ _ => rfl) ?_
        obtain ⟨D25, hx, h⟩ := bnd h
        refine ev_bind hx 3 (pc' := 117) (L' := fun D25 => [some (.inr (.inr 122)), some (.inl p1), some (.inl x2), some (.inl x4), some (.inl t6)]) (S' := fun D25 => []) (σ' := fun D25 => (SH L0, D25)) (fun _ _ => rfl) ?_
        obtain ⟨x26, hx, h⟩ := bnd h
        refine ev_bind hx 5 (pc' := 124) (L' := fun x26 => [some (.inr (.inr 122)), some (.inl p1), some (.inl x2), some (.inl x4), some (.inl t6)]) (S' := fun x26 => [.inl x26, .inl x4, .inr (.inr 129)]) (σ' := fun x26 => (SH L0, D25)) (fun _ _ => rfl) ?_
        obtain ⟨D27, hx, h⟩ := bnd h
        refine ev_bind hx 3 (pc' := 127) (L' := fun D27 => [some (.inr (.inr 122)), some (.inl p1), some (.inl x2), some (.inl x4), some (.inl t6)]) (S' := fun D27 => []) (σ' := fun D27 => (SH L0, D27)) (fun _ _ => rfl) ?_
        cases h
        exact ev_ret 2 (fun _ _ => rfl)
      clear h
      rcases ite_or hv with ⟨hc, hv⟩ | ⟨hc, hv⟩
      · refine ev_ift hc 6 (pc' := 91) (L' := [some (.inr (.inr 122)), some (.inl p1), some (.inl x2), some (.inl x4), some (.inl t6)]) (S' := [.inl x4, .inl x2, .inl p1, .inr (.inr 122)]) (σ' := (SH L0, D)) (fun _ _ => rfl) ?_
        obtain ⟨x18, hx, hv⟩ := bnd hv
        refine ev_bind hx 4 (pc' := 97) (L' := fun x18 => [some (.inr (.inr 122)), some (.inl p1), some (.inl x2), some (.inl x4), some (.inl t6)]) (S' := fun x18 => [.inl x18, .inl x4, .inl x2, .inl p1, .inr (.inr 122)]) (σ' := fun x18 => (SH L0, D)) (fun _ _ => rfl) ?_
        have he0 := Option.some.inj hv
        subst he0
        exact hJ
      · refine ev_iff hc 6 (pc' := 81) (L' := [some (.inr (.inr 122)), some (.inl p1), some (.inl x2), some (.inl x4), some (.inl t6)]) (S' := [.inl x4, .inl x2, .inl p1, .inr (.inr 122)]) (σ' := (SH L0, D)) (fun _ _ => rfl) ?_
        obtain ⟨x19, hx, hv⟩ := bnd hv
        refine ev_bind hx 4 (pc' := 87) (L' := fun x19 => [some (.inr (.inr 122)), some (.inl p1), some (.inl x2), some (.inl x4), some (.inl t6)]) (S' := fun x19 => [.inl x19, .inl x4, .inl x2, .inl p1, .inr (.inr 122)]) (σ' := fun x19 => (SH L0, D)) (fun _ _ => rfl) ?_
        have he0 := Option.some.inj hv
        subst he0
        exact ev_go 2 (pc' := 97) (L' := [some (.inr (.inr 122)), some (.inl p1), some (.inl x2), some (.inl x4), some (.inl t6)]) (S' := [.inl (w32 (-x19)), .inl x4, .inl x2, .inl p1, .inr (.inr 122)]) (σ' := (SH L0, D)) (fun _ _ => rfl) hJ
  clear h
  rcases ite_or hv with ⟨hc, hv⟩ | ⟨hc, hv⟩
  · refine ev_ift hc 4 (pc' := 46) (L' := [some (.inr (.inr 122)), some (.inl p1), some (.inl x2), some (.inl x4), none]) (S' := []) (σ' := (SH L0, D)) (fun _ _ => rfl) ?_
    have he0 := Option.some.inj hv
    subst he0
    exact ev_go 1 (pc' := 47) (L' := [some (.inr (.inr 122)), some (.inl p1), some (.inl x2), some (.inl x4), none]) (S' := [.inl 0]) (σ' := (SH L0, D)) (fun _ _ => rfl) hJ
  · refine ev_iff hc 4 (pc' := 32) (L' := [some (.inr (.inr 122)), some (.inl p1), some (.inl x2), some (.inl x4), none]) (S' := []) (σ' := (SH L0, D)) (fun _ _ => rfl) ?_
    obtain ⟨x5, hx, hv⟩ := bnd hv
    refine ev_bind hx 4 (pc' := 38) (L' := fun x5 => [some (.inr (.inr 122)), some (.inl p1), some (.inl x2), some (.inl x4), none]) (S' := fun x5 => [.inl x5]) (σ' := fun x5 => (SH L0, D)) (fun _ _ => rfl) ?_
    rcases ite_or hv with ⟨hc, hv⟩ | ⟨hc, hv⟩
    · refine ev_ift hc 2 (pc' := 42) (L' := [some (.inr (.inr 122)), some (.inl p1), some (.inl x2), some (.inl x4), none]) (S' := []) (σ' := (SH L0, D)) (fun _ _ => rfl) ?_
      have he0 := Option.some.inj hv
      subst he0
      exact ev_go 2 (pc' := 47) (L' := [some (.inr (.inr 122)), some (.inl p1), some (.inl x2), some (.inl x4), none]) (S' := [.inl 1]) (σ' := (SH L0, D)) (fun _ _ => rfl) hJ
    · refine ev_iff hc 2 (pc' := 46) (L' := [some (.inr (.inr 122)), some (.inl p1), some (.inl x2), some (.inl x4), none]) (S' := []) (σ' := (SH L0, D)) (fun _ _ => rfl) ?_
      have he0 := Option.some.inj hv
      subst he0
      exact ev_go 1 (pc' := 47) (L' := [some (.inr (.inr 122)), some (.inl p1), some (.inl x2), some (.inl x4), none]) (S' := [.inl 0]) (σ' := (SH L0, D)) (fun _ _ => rfl) hJ
set_option maxRecDepth 100000 in
set_option maxHeartbeats 4000000 in
theorem e_X2_solveSome (L0 d : Nat) (hd : 3 ≤ d) {p1 : Int} {D : DT} {t0 : (Int × DT)} (h : m_X2_solveSome p1 D = some t0) : Ret mtab d 31 [.inr (.inr 122), .inl p1] (SH L0, D) (some (.inl t0.1), (SH L0, t0.2)) := by
  obtain ⟨d, rfl⟩ : ∃ e, d = e + 1 := ⟨d - 1, by omega⟩
  refine Ret.of (code := k_X2_solveSome) (ml := 4) rfl ?_
  show EvF mtab d k_X2_solveSome 0 [some (.inr (.inr 122)), some (.inl p1), none, none] [] (SH L0, D) (some (.inl t0.1), (SH L0, t0.2))
  unfold m_X2_solveSome at h
  obtain ⟨r, hr, h⟩ := bnd h
  have hX : (fun (r : (Int × DT)) => ∀ (o12 : Option (Sum Int Nat)), EvF mtab d k_X2_solveSome 44 [some (.inr (.inr 122)), some (.inl p1), some (.inl r.1), dv o12] [] (SH L0, r.2) (some (.inl t0.1), (SH L0, t0.2))) r := by
    obtain ⟨l2_11, D13⟩ := r
    intro o12
    show EvF mtab d k_X2_solveSome 44 [some (.inr (.inr 122)), some (.inl p1), some (.inl l2_11), dv o12] [] (SH L0, D13) (some (.inl t0.1), (SH L0, t0.2))
    obtain ⟨x14, hx, h⟩ := bnd h
    cases h
    exact ev_brt hx 2 (fun _ _ => rfl)
  clear h
  refine ev_go 4 (pc' := 4) (L' := [some (.inr (.inr 122)), some (.inl p1), some (.inl 0), some (.inl 0)]) (S' := []) (σ' := (SH L0, D)) (fun _ _ => rfl) ?_
  refine loop_ind (P := fun s => EvF mtab d k_X2_solveSome 4 [some (.inr (.inr 122)), some (.inl p1), some (.inl s.1), some (.inl s.2.1)] [] (SH L0, s.2.2) (some (.inl t0.1), (SH L0, t0.2))) (X := fun r => ∀ (o12 : Option (Sum Int Nat)), EvF mtab d k_X2_solveSome 44 [some (.inr (.inr 122)), some (.inl p1), some (.inl r.1), dv o12] [] (SH L0, r.2) (some (.inl t0.1), (SH L0, t0.2))) hr hX ?_
  clear hr hX
  intro s t hb hK0
  obtain ⟨l2_1, l3_2, D3⟩ := s
  show EvF mtab d k_X2_solveSome 4 [some (.inr (.inr 122)), some (.inl p1), some (.inl l2_1), some (.inl l3_2)] [] (SH L0, D3) (some (.inl t0.1), (SH L0, t0.2))
  unfold b_X2_solveSome_4 at hb
  rcases ite_or hb with ⟨hc, hb⟩ | ⟨hc, hb⟩
  · refine ev_ift hc 3 (pc' := 9) (L' := [some (.inr (.inr 122)), some (.inl p1), some (.inl l2_1), some (.inl l3_2)]) (S' := []) (σ' := (SH L0, D3)) (fun _ _ => rfl) ?_
    obtain ⟨x4, hx, hb⟩ := bnd hb
    refine ev_bind hx 6 (pc' := 19) (L' := fun x4 => [some (.inr (.inr 122)), some (.inl p1), some (.inl l2_1), some (.inl l3_2)]) (S' := fun x4 => [.inl x4, .inr (.inr 127)]) (σ' := fun x4 => (SH L0, D3)) (fun _ _ => rfl) ?_
    obtain ⟨x5, hx, hb⟩ := bnd hb
    refine ev_bind hx 1 (pc' := 20) (L' := fun x5 => [some (.inr (.inr 122)), some (.inl p1), some (.inl l2_1), some (.inl l3_2)]) (S' := fun x5 => [.inl x5]) (σ' := fun x5 => (SH L0, D3)) (fun _ _ => rfl) ?_
    obtain ⟨⟨l2_9, D10⟩, hv, hb⟩ := bnd hb
    have hJ : EvF mtab d k_X2_solveSome 38 [some (.inr (.inr 122)), some (.inl p1), some (.inl l2_9), some (.inl l3_2)] [] (SH L0, D10) (some (.inl t0.1), (SH L0, t0.2)) := by
      cases hb
      exact ev_go 2 (pc' := 4) (L' := [some (.inr (.inr 122)), some (.inl p1), some (.inl l2_9), some (.inl (w32 (l3_2 + 1)))]) (S' := []) (σ' := (SH L0, D10)) (fun _ _ => rfl) hK0
    clear hb
    rcases ite_or hv with ⟨hc, hv⟩ | ⟨hc, hv⟩
    · refine ev_ift hc 1 (pc' := 38) (L' := [some (.inr (.inr 122)), some (.inl p1), some (.inl l2_1), some (.inl l3_2)]) (S' := []) (σ' := (SH L0, D3)) (fun _ _ => rfl) ?_
      have he0 := Option.some.inj hv
      obtain ⟨ha0, he1⟩ := Prod.mk.inj he0
      clear he0
      subst ha0
      subst he1
      exact hJ
    · refine ev_iff hc 1 (pc' := 23) (L' := [some (.inr (.inr 122)), some (.inl p1), some (.inl l2_1), some (.inl l3_2)]) (S' := []) (σ' := (SH L0, D3)) (fun _ _ => rfl) ?_
      obtain ⟨x6, hx, hv⟩ := bnd hv
      refine ev_bind hx 5 (pc' := 30) (L' := fun x6 => [some (.inr (.inr 122)), some (.inl p1), some (.inl l2_1), some (.inl l3_2)]) (S' := fun x6 => [.inl x6, .inr (.inr 122)]) (σ' := fun x6 => (SH L0, D3)) (fun _ _ => rfl) ?_
      obtain ⟨⟨x7, D8⟩, hx, hv⟩ := bnd hv
      refine ev_call (e_X2_solve L0 d (by omega) hx) 1 (pc' := 33) (L' := [some (.inr (.inr 122)), some (.inl p1), some (.inl l2_1), some (.inl l3_2)]) (S' := []) (fun _ _ => rfl) ?_
      rcases ite_or hv with ⟨hc, hv⟩ | ⟨hc, hv⟩
      · refine ev_ift hc 1 (pc' := 38) (L' := [some (.inr (.inr 122)), some (.inl p1), some (.inl l2_1), some (.inl l3_2)]) (S' := []) (σ' := (SH L0, D8)) (fun _ _ => rfl) ?_
        have he0 := Option.some.inj hv
        obtain ⟨ha0, he1⟩ := Prod.mk.inj he0
        clear he0
        subst ha0
        subst he1
        exact hJ
      · refine ev_iff hc 1 (pc' := 36) (L' := [some (.inr (.inr 122)), some (.inl p1), some (.inl l2_1), some (.inl l3_2)]) (S' := []) (σ' := (SH L0, D8)) (fun _ _ => rfl) ?_
        have he0 := Option.some.inj hv
        obtain ⟨ha0, he1⟩ := Prod.mk.inj he0
        clear he0
        subst ha0
        subst he1
        exact ev_go 2 (pc' := 38) (L' := [some (.inr (.inr 122)), some (.inl p1), some (.inl 1), some (.inl l3_2)]) (S' := []) (σ' := (SH L0, D8)) (fun _ _ => rfl) hJ
  · refine ev_iff hc 3 (pc' := 44) (L' := [some (.inr (.inr 122)), some (.inl p1), some (.inl l2_1), some (.inl l3_2)]) (S' := []) (σ' := (SH L0, D3)) (fun _ _ => rfl) ?_
    cases hb
    exact hK0 (some (.inl l3_2))
set_option maxRecDepth 100000 in
set_option maxHeartbeats 4000000 in
theorem e_X2_mend (L0 d : Nat) (hd : 4 ≤ d) {p1 : Int} {D : DT} {t0 : DT} (h : m_X2_mend p1 D = some t0) : Ret mtab d 23 [.inr (.inr 122), .inl p1] (SH L0, D) (none, (SH L0, t0)) := by
  obtain ⟨d, rfl⟩ : ∃ e, d = e + 1 := ⟨d - 1, by omega⟩
  refine Ret.of (code := k_X2_mend) (ml := 6) rfl ?_
  show EvF mtab d k_X2_mend 0 [some (.inr (.inr 122)), some (.inl p1), none, none, none, none] [] (SH L0, D) (none, (SH L0, t0))
  unfold m_X2_mend at h
  obtain ⟨⟨x1, D2⟩, hx, h⟩ := bnd h
  refine ev_call (e_X2_listArcs L0 d (by omega) hx) 3 (pc' := 5) (L' := [some (.inr (.inr 122)), some (.inl p1), none, none, none, none]) (S' := []) (fun _ _ => rfl) ?_
  obtain ⟨D3, hx, h⟩ := bnd h
  refine ev_call (e_X11_sortDown_126_15 L0 d (by omega) hx) 8 (pc' := 21) (L' := [some (.inr (.inr 122)), some (.inl p1), some (.inl x1), none, none, none]) (S' := []) (fun _ _ => rfl) ?_
  obtain ⟨D4, hx, h⟩ := bnd h
  refine ev_call (e_X2_loosen L0 d (by omega) hx) 3 (pc' := 26) (L' := [some (.inr (.inr 122)), some (.inl p1), some (.inl x1), none, none, none]) (S' := []) (fun _ _ => rfl) ?_
  obtain ⟨r, hr, h⟩ := bnd h
  have hX : (fun (r : DT) => ∀ (o9 : Option (Sum Int Nat)), EvF mtab d k_X2_mend 50 [some (.inr (.inr 122)), some (.inl p1), some (.inl x1), dv o9, none, none] [] (SH L0, r) (none, (SH L0, t0))) r := by
    obtain ⟨D10, hre⟩ : ∃ q, q = r := ⟨r, rfl⟩
    subst hre
    intro o9
    show EvF mtab d k_X2_mend 50 [some (.inr (.inr 122)), some (.inl p1), some (.inl x1), dv o9, none, none] [] (SH L0, D10) (none, (SH L0, t0))
    obtain ⟨r, hr, h⟩ := bnd h
    have hX : (fun (r : DT) => ∀ (o16 : Option (Sum Int Nat)) (o17 : Option (Sum Int Nat)), EvF mtab d k_X2_mend 77 [some (.inr (.inr 122)), some (.inl p1), some (.inl x1), dv o16, dv o17, none] [] (SH L0, r) (none, (SH L0, t0))) r := by
      obtain ⟨D18, hre⟩ : ∃ q, q = r := ⟨r, rfl⟩
      subst hre
      intro o16 o17
      show EvF mtab d k_X2_mend 77 [some (.inr (.inr 122)), some (.inl p1), some (.inl x1), dv o16, dv o17, none] [] (SH L0, D18) (none, (SH L0, t0))
      obtain ⟨r, hr, h⟩ := bnd h
      have hX : (fun (r : DT) => ∀ (o29 : Option (Sum Int Nat)) (o30 : Option (Sum Int Nat)), EvF mtab d k_X2_mend 137 [some (.inr (.inr 122)), some (.inl p1), some (.inl x1), dv o16, dv o29, dv o30] [] (SH L0, r) (none, (SH L0, t0))) r := by
        obtain ⟨D31, hre⟩ : ∃ q, q = r := ⟨r, rfl⟩
        subst hre
        intro o29 o30
        show EvF mtab d k_X2_mend 137 [some (.inr (.inr 122)), some (.inl p1), some (.inl x1), dv o16, dv o29, dv o30] [] (SH L0, D31) (none, (SH L0, t0))
        cases h
        exact ev_ret 1 (fun _ _ => rfl)
      clear h
      refine ev_go 2 (pc' := 80) (L' := [some (.inr (.inr 122)), some (.inl p1), some (.inl x1), dv o16, some (.inl 0), none]) (S' := []) (σ' := (SH L0, D18)) (fun _ _ => by rcases o16 with _ | (_ | _) <;> rfl) ?_
      refine loop_ind (P := fun s => ∀ (o20 : Option (Sum Int Nat)), EvF mtab d k_X2_mend 80 [some (.inr (.inr 122)), some (.inl p1), some (.inl x1), dv o16, some (.inl s.1), dv o20] [] (SH L0, s.2) (none, (SH L0, t0))) (X := fun r => ∀ (o29 : Option (Sum Int Nat)) (o30 : Option (Sum Int Nat)), EvF mtab d k_X2_mend 137 [some (.inr (.inr 122)), some (.inl p1), some (.inl x1), dv o16, dv o29, dv o30] [] (SH L0, r) (none, (SH L0, t0))) hr hX ?_ none
      clear hr hX
      intro s t hb hK0
      obtain ⟨l4_19, D21⟩ := s
      intro o20
      show EvF mtab d k_X2_mend 80 [some (.inr (.inr 122)), some (.inl p1), some (.inl x1), dv o16, some (.inl l4_19), dv o20] [] (SH L0, D21) (none, (SH L0, t0))
      unfold b_X2_mend_80 at hb
      rcases ite_or hb with ⟨hc, hb⟩ | ⟨hc, hb⟩
      · refine ev_ift hc 3 (pc' := 86) (L' := [some (.inr (.inr 122)), some (.inl p1), some (.inl x1), dv o16, some (.inl l4_19), dv o20]) (S' := []) (σ' := (SH L0, D21)) (fun _ _ => rfl) ?_
        obtain ⟨x22, hx, hb⟩ := bnd hb
        refine ev_bind hx 7 (pc' := 100) (L' := fun x22 => [some (.inr (.inr 122)), some (.inl p1), some (.inl x1), dv o16, some (.inl l4_19), dv o20]) (S' := fun x22 => [.inl x22, .inr (.inr 14)]) (σ' := fun x22 => (SH L0, D21)) (fun _ _ => rfl) ?_
        obtain ⟨x23, hx, hb⟩ := bnd hb
        refine ev_bind hx 1 (pc' := 101) (L' := fun x23 => [some (.inr (.inr 122)), some (.inl p1), some (.inl x1), dv o16, some (.inl l4_19), dv o20]) (S' := fun x23 => [.inl x23]) (σ' := fun x23 => (SH L0, D21)) (fun _ _ => rfl) ?_
        obtain ⟨D28, hv, hb⟩ := bnd hb
        have hJ : EvF mtab d k_X2_mend 131 [some (.inr (.inr 122)), some (.inl p1), some (.inl x1), dv o16, some (.inl l4_19), some (.inl x23)] [] (SH L0, D28) (none, (SH L0, t0)) := by
          cases hb
          exact ev_go 2 (pc' := 80) (L' := [some (.inr (.inr 122)), some (.inl p1), some (.inl x1), dv o16, some (.inl (w32 (l4_19 + 1))), some (.inl x23)]) (S' := []) (σ' := (SH L0, D28)) (fun _ _ => by rcases o16 with _ | (_ | _) <;> rfl) (hK0 (some (.inl x23)))
        clear hb
        rcases ite_or hv with ⟨hc, hv⟩ | ⟨hc, hv⟩
        · refine ev_ift hc 4 (pc' := 131) (L' := [some (.inr (.inr 122)), some (.inl p1), some (.inl x1), dv o16, some (.inl l4_19), some (.inl x23)]) (S' := []) (σ' := (SH L0, D21)) (fun _ _ => rfl) ?_
          have he0 := Option.some.inj hv
          subst he0
          exact hJ
        · refine ev_iff hc 4 (pc' := 109) (L' := [some (.inr (.inr 122)), some (.inl p1), some (.inl x1), dv o16, some (.inl l4_19), some (.inl x23)]) (S' := []) (σ' := (SH L0, D21)) (fun _ _ => rfl) ?_
          obtain ⟨x24, hx, hv⟩ := bnd hv
          refine ev_bind hx 5 (pc' := 117) (L' := fun x24 => [some (.inr (.inr 122)), some (.inl p1), some (.inl x1), dv o16, some (.inl l4_19), some (.inl x23)]) (S' := fun x24 => [.inl x24, .inl x23, .inr (.inr 125)]) (σ' := fun x24 => (SH L0, D21)) (fun _ _ => rfl) ?_
          obtain ⟨x25, hx, hv⟩ := bnd hv
          refine ev_bind hx 6 (pc' := 128) (L' := fun x25 => [some (.inr (.inr 122)), some (.inl p1), some (.inl x1), dv o16, some (.inl l4_19), some (.inl x23)]) (S' := fun x25 => [.inl x25, .inr (.inr 123), .inl x24, .inl x23, .inr (.inr 125)]) (σ' := fun x25 => (SH L0, D21)) (fun _ _ => rfl) ?_
          obtain ⟨x26, hx, hv⟩ := bnd hv
          refine ev_bind hx 1 (pc' := 129) (L' := fun x26 => [some (.inr (.inr 122)), some (.inl p1), some (.inl x1), dv o16, some (.inl l4_19), some (.inl x23)]) (S' := fun x26 => [.inl x26, .inl x24, .inl x23, .inr (.inr 125)]) (σ' := fun x26 => (SH L0, D21)) (fun _ _ => rfl) ?_
          obtain ⟨D27, hx, hv⟩ := bnd hv
          refine ev_bind hx 2 (pc' := 131) (L' := fun D27 => [some (.inr (.inr 122)), some (.inl p1), some (.inl x1), dv o16, some (.inl l4_19), some (.inl x23)]) (S' := fun D27 => []) (σ' := fun D27 => (SH L0, D27)) (fun _ _ => rfl) ?_
          have he0 := Option.some.inj hv
          subst he0
          exact hJ
      · refine ev_iff hc 3 (pc' := 137) (L' := [some (.inr (.inr 122)), some (.inl p1), some (.inl x1), dv o16, some (.inl l4_19), dv o20]) (S' := []) (σ' := (SH L0, D21)) (fun _ _ => rfl) ?_
        cases hb
        exact hK0 (some (.inl l4_19)) o20
    clear h
    refine ev_go 4 (pc' := 55) (L' := [some (.inr (.inr 122)), some (.inl p1), some (.inl x1), some (.inl 1), some (.inl 0), none]) (S' := []) (σ' := (SH L0, D10)) (fun _ _ => rfl) ?_
    refine loop_ind (P := fun s => EvF mtab d k_X2_mend 55 [some (.inr (.inr 122)), some (.inl p1), some (.inl x1), some (.inl s.1), some (.inl s.2.1), none] [] (SH L0, s.2.2) (none, (SH L0, t0))) (X := fun r => ∀ (o16 : Option (Sum Int Nat)) (o17 : Option (Sum Int Nat)), EvF mtab d k_X2_mend 77 [some (.inr (.inr 122)), some (.inl p1), some (.inl x1), dv o16, dv o17, none] [] (SH L0, r) (none, (SH L0, t0))) hr hX ?_
    clear hr hX
    intro s t hb hK0
    obtain ⟨l3_11, l4_12, D13⟩ := s
    show EvF mtab d k_X2_mend 55 [some (.inr (.inr 122)), some (.inl p1), some (.inl x1), some (.inl l3_11), some (.inl l4_12), none] [] (SH L0, D13) (none, (SH L0, t0))
    unfold b_X2_mend_55 at hb
    rcases ite_or hb with ⟨hc, hb⟩ | ⟨hc, hb⟩
    · refine ev_ift hc 3 (pc' := 61) (L' := [some (.inr (.inr 122)), some (.inl p1), some (.inl x1), some (.inl l3_11), some (.inl l4_12), none]) (S' := []) (σ' := (SH L0, D13)) (fun _ _ => rfl) ?_
      rcases ite_or hb with ⟨hc, hb⟩ | ⟨hc, hb⟩
      · refine ev_ift hc 2 (pc' := 77) (L' := [some (.inr (.inr 122)), some (.inl p1), some (.inl x1), some (.inl l3_11), some (.inl l4_12), none]) (S' := []) (σ' := (SH L0, D13)) (fun _ _ => rfl) ?_
        cases hb
        exact hK0 (some (.inl l3_11)) (some (.inl l4_12))
      · refine ev_iff hc 2 (pc' := 65) (L' := [some (.inr (.inr 122)), some (.inl p1), some (.inl x1), some (.inl l3_11), some (.inl l4_12), none]) (S' := []) (σ' := (SH L0, D13)) (fun _ _ => rfl) ?_
        obtain ⟨⟨x14, D15⟩, hx, hb⟩ := bnd hb
        refine ev_call (e_X2_solveSome L0 d (by omega) hx) 3 (pc' := 70) (L' := [some (.inr (.inr 122)), some (.inl p1), some (.inl x1), some (.inl l3_11), some (.inl l4_12), none]) (S' := []) (fun _ _ => rfl) ?_
        cases hb
        exact ev_go 3 (pc' := 55) (L' := [some (.inr (.inr 122)), some (.inl p1), some (.inl x1), some (.inl x14), some (.inl (w32 (l4_12 + 1))), none]) (S' := []) (σ' := (SH L0, D15)) (fun _ _ => rfl) hK0
    · refine ev_iff hc 3 (pc' := 77) (L' := [some (.inr (.inr 122)), some (.inl p1), some (.inl x1), some (.inl l3_11), some (.inl l4_12), none]) (S' := []) (σ' := (SH L0, D13)) (fun _ _ => rfl) ?_
      cases hb
      exact hK0 (some (.inl l3_11)) (some (.inl l4_12))
  clear h
  refine ev_go 2 (pc' := 28) (L' := [some (.inr (.inr 122)), some (.inl p1), some (.inl x1), some (.inl 0), none, none]) (S' := []) (σ' := (SH L0, D4)) (fun _ _ => rfl) ?_
  refine loop_ind (P := fun s => EvF mtab d k_X2_mend 28 [some (.inr (.inr 122)), some (.inl p1), some (.inl x1), some (.inl s.1), none, none] [] (SH L0, s.2) (none, (SH L0, t0))) (X := fun r => ∀ (o9 : Option (Sum Int Nat)), EvF mtab d k_X2_mend 50 [some (.inr (.inr 122)), some (.inl p1), some (.inl x1), dv o9, none, none] [] (SH L0, r) (none, (SH L0, t0))) hr hX ?_
  clear hr hX
  intro s t hb hK0
  obtain ⟨l3_5, D6⟩ := s
  show EvF mtab d k_X2_mend 28 [some (.inr (.inr 122)), some (.inl p1), some (.inl x1), some (.inl l3_5), none, none] [] (SH L0, D6) (none, (SH L0, t0))
  unfold b_X2_mend_28 at hb
  rcases ite_or hb with ⟨hc, hb⟩ | ⟨hc, hb⟩
  · refine ev_ift hc 3 (pc' := 33) (L' := [some (.inr (.inr 122)), some (.inl p1), some (.inl x1), some (.inl l3_5), none, none]) (S' := []) (σ' := (SH L0, D6)) (fun _ _ => rfl) ?_
    obtain ⟨x7, hx, hb⟩ := bnd hb
    refine ev_bind hx 6 (pc' := 41) (L' := fun x7 => [some (.inr (.inr 122)), some (.inl p1), some (.inl x1), some (.inl l3_5), none, none]) (S' := fun x7 => [.inl x7, .inl p1, .inr (.inr 122)]) (σ' := fun x7 => (SH L0, D6)) (fun _ _ => rfl) ?_
    obtain ⟨D8, hx, hb⟩ := bnd hb
    refine ev_call (e_X2_look L0 d (by omega) hx) 1 (pc' := 44) (L' := [some (.inr (.inr 122)), some (.inl p1), some (.inl x1), some (.inl l3_5), none, none]) (S' := []) (fun _ _ => rfl) ?_
    cases hb
    exact ev_go 2 (pc' := 28) (L' := [some (.inr (.inr 122)), some (.inl p1), some (.inl x1), some (.inl (w32 (l3_5 + 1))), none, none]) (S' := []) (σ' := (SH L0, D8)) (fun _ _ => rfl) hK0
  · refine ev_iff hc 3 (pc' := 50) (L' := [some (.inr (.inr 122)), some (.inl p1), some (.inl x1), some (.inl l3_5), none, none]) (S' := []) (σ' := (SH L0, D6)) (fun _ _ => rfl) ?_
    cases hb
    exact hK0 (some (.inl l3_5))
set_option maxRecDepth 100000 in
set_option maxHeartbeats 4000000 in
theorem e_X2_worthOf (L0 d : Nat) (hd : 2 ≤ d) {p1 : Int} {D : DT} {t0 : Int} (h : m_X2_worthOf p1 D = some t0) : Ret mtab d 36 [.inr (.inr 122), .inl p1] (SH L0, D) (some (.inl t0), (SH L0, D)) := by
  obtain ⟨d, rfl⟩ : ∃ e, d = e + 1 := ⟨d - 1, by omega⟩
  refine Ret.of (code := k_X2_worthOf) (ml := 4) rfl ?_
  show EvF mtab d k_X2_worthOf 0 [some (.inr (.inr 122)), some (.inl p1), none, none] [] (SH L0, D) (some (.inl t0), (SH L0, D))
  unfold m_X2_worthOf at h
  obtain ⟨r, hr, h⟩ := bnd h
  have hX : (fun (r : Int) => ∀ (o9 : Option (Sum Int Nat)), EvF mtab d k_X2_worthOf 67 [some (.inr (.inr 122)), some (.inl p1), some (.inl r), dv o9] [] (SH L0, D) (some (.inl t0), (SH L0, D))) r := by
    obtain ⟨l2_8, hre⟩ : ∃ q, q = r := ⟨r, rfl⟩
    subst hre
    intro o9
    show EvF mtab d k_X2_worthOf 67 [some (.inr (.inr 122)), some (.inl p1), some (.inl l2_8), dv o9] [] (SH L0, D) (some (.inl t0), (SH L0, D))
    cases h
    exact ev_ret 2 (fun _ _ => rfl)
  clear h
  refine ev_go 6 (pc' := 10) (L' := [some (.inr (.inr 122)), some (.inl p1), some (.inl 0), some (.inl (D 4 0))]) (S' := []) (σ' := (SH L0, D)) (fun _ _ => rfl) ?_
  refine loop_ind (P := fun s => EvF mtab d k_X2_worthOf 10 [some (.inr (.inr 122)), some (.inl p1), some (.inl s.1), some (.inl s.2)] [] (SH L0, D) (some (.inl t0), (SH L0, D))) (X := fun r => ∀ (o9 : Option (Sum Int Nat)), EvF mtab d k_X2_worthOf 67 [some (.inr (.inr 122)), some (.inl p1), some (.inl r), dv o9] [] (SH L0, D) (some (.inl t0), (SH L0, D))) hr hX ?_
  clear hr hX
  intro s t hb hK0
  obtain ⟨l2_1, l3_2⟩ := s
  show EvF mtab d k_X2_worthOf 10 [some (.inr (.inr 122)), some (.inl p1), some (.inl l2_1), some (.inl l3_2)] [] (SH L0, D) (some (.inl t0), (SH L0, D))
  unfold b_X2_worthOf_10 at hb
  rcases ite_or hb with ⟨hc, hb⟩ | ⟨hc, hb⟩
  · refine ev_ift hc 5 (pc' := 21) (L' := [some (.inr (.inr 122)), some (.inl p1), some (.inl l2_1), some (.inl l3_2)]) (S' := []) (σ' := (SH L0, D)) (fun _ _ => rfl) ?_
    obtain ⟨x3, hx, hb⟩ := bnd hb
    refine ev_call (e_X7_isInside_4 L0 d (by omega) hx) 4 (pc' := 29) (L' := [some (.inr (.inr 122)), some (.inl p1), some (.inl l2_1), some (.inl l3_2)]) (S' := []) (fun _ _ => rfl) ?_
    obtain ⟨l2_7, hv, hb⟩ := bnd hb
    have hJ : EvF mtab d k_X2_worthOf 61 [some (.inr (.inr 122)), some (.inl p1), some (.inl l2_7), some (.inl l3_2)] [] (SH L0, D) (some (.inl t0), (SH L0, D)) := by
      cases hb
      exact ev_go 2 (pc' := 10) (L' := [some (.inr (.inr 122)), some (.inl p1), some (.inl l2_7), some (.inl (w32 (l3_2 + 1)))]) (S' := []) (σ' := (SH L0, D)) (fun _ _ => rfl) hK0
    clear hb
    rcases ite_or hv with ⟨hc, hv⟩ | ⟨hc, hv⟩
    · refine ev_ift hc 1 (pc' := 61) (L' := [some (.inr (.inr 122)), some (.inl p1), some (.inl l2_1), some (.inl l3_2)]) (S' := []) (σ' := (SH L0, D)) (fun _ _ => rfl) ?_
      have he0 := Option.some.inj hv
      subst he0
      exact hJ
    · refine ev_iff hc 1 (pc' := 32) (L' := [some (.inr (.inr 122)), some (.inl p1), some (.inl l2_1), some (.inl l3_2)]) (S' := []) (σ' := (SH L0, D)) (fun _ _ => rfl) ?_
      obtain ⟨x4, hx, hv⟩ := bnd hv
      refine ev_bind hx 8 (pc' := 48) (L' := fun x4 => [some (.inr (.inr 122)), some (.inl p1), some (.inl l2_1), some (.inl l3_2)]) (S' := fun x4 => [.inl x4, .inr (.inr 8)]) (σ' := fun x4 => (SH L0, D)) (fun _ _ => rfl) ?_
      obtain ⟨x5, hx, hv⟩ := bnd hv
      refine ev_bind hx 1 (pc' := 49) (L' := fun x5 => [some (.inr (.inr 122)), some (.inl p1), some (.inl l2_1), some (.inl l3_2)]) (S' := fun x5 => [.inl x5]) (σ' := fun x5 => (SH L0, D)) (fun _ _ => rfl) ?_
      rcases ite_or hv with ⟨hc, hv⟩ | ⟨hc, hv⟩
      · refine ev_ift hc 2 (pc' := 53) (L' := [some (.inr (.inr 122)), some (.inl p1), some (.inl l2_1), some (.inl l3_2)]) (S' := []) (σ' := (SH L0, D)) (fun _ _ => rfl) ?_
        obtain ⟨x6, hx, hv⟩ := bnd hv
        refine ev_call (e_X2_worth L0 d (by omega) hx) 4 (pc' := 59) (L' := [some (.inr (.inr 122)), some (.inl p1), some (.inl l2_1), some (.inl l3_2)]) (S' := [.inl l2_1]) (fun _ _ => rfl) ?_
        have he0 := Option.some.inj hv
        subst he0
        exact ev_go 2 (pc' := 61) (L' := [some (.inr (.inr 122)), some (.inl p1), some (.inl (w32 (l2_1 + x6))), some (.inl l3_2)]) (S' := []) (σ' := (SH L0, D)) (fun _ _ => rfl) hJ
      · refine ev_iff hc 2 (pc' := 61) (L' := [some (.inr (.inr 122)), some (.inl p1), some (.inl l2_1), some (.inl l3_2)]) (S' := []) (σ' := (SH L0, D)) (fun _ _ => rfl) ?_
        have he0 := Option.some.inj hv
        subst he0
        exact hJ
  · refine ev_iff hc 5 (pc' := 67) (L' := [some (.inr (.inr 122)), some (.inl p1), some (.inl l2_1), some (.inl l3_2)]) (S' := []) (σ' := (SH L0, D)) (fun _ _ => rfl) ?_
    cases hb
    exact hK0 (some (.inl l3_2))
set_option maxRecDepth 100000 in
set_option maxHeartbeats 4000000 in
theorem e_X2_allWorth (L0 d : Nat) (hd : 3 ≤ d) {D : DT} {t0 : Int} (h : m_X2_allWorth  D = some t0) : Ret mtab d 37 [.inr (.inr 122)] (SH L0, D) (some (.inl t0), (SH L0, D)) := by
  obtain ⟨d, rfl⟩ : ∃ e, d = e + 1 := ⟨d - 1, by omega⟩
  refine Ret.of (code := k_X2_allWorth) (ml := 3) rfl ?_
  show EvF mtab d k_X2_allWorth 0 [some (.inr (.inr 122)), none, none] [] (SH L0, D) (some (.inl t0), (SH L0, D))
  unfold m_X2_allWorth at h
  obtain ⟨r, hr, h⟩ := bnd h
  have hX : (fun (r : Int) => ∀ (o5 : Option (Sum Int Nat)), EvF mtab d k_X2_allWorth 29 [some (.inr (.inr 122)), some (.inl r), dv o5] [] (SH L0, D) (some (.inl t0), (SH L0, D))) r := by
    obtain ⟨l1_4, hre⟩ : ∃ q, q = r := ⟨r, rfl⟩
    subst hre
    intro o5
    show EvF mtab d k_X2_allWorth 29 [some (.inr (.inr 122)), some (.inl l1_4), dv o5] [] (SH L0, D) (some (.inl t0), (SH L0, D))
    cases h
    exact ev_ret 2 (fun _ _ => rfl)
  clear h
  refine ev_go 4 (pc' := 4) (L' := [some (.inr (.inr 122)), some (.inl 0), some (.inl 0)]) (S' := []) (σ' := (SH L0, D)) (fun _ _ => rfl) ?_
  refine loop_ind (P := fun s => EvF mtab d k_X2_allWorth 4 [some (.inr (.inr 122)), some (.inl s.1), some (.inl s.2)] [] (SH L0, D) (some (.inl t0), (SH L0, D))) (X := fun r => ∀ (o5 : Option (Sum Int Nat)), EvF mtab d k_X2_allWorth 29 [some (.inr (.inr 122)), some (.inl r), dv o5] [] (SH L0, D) (some (.inl t0), (SH L0, D))) hr hX ?_
  clear hr hX
  intro s t hb hK0
  obtain ⟨l1_1, l2_2⟩ := s
  show EvF mtab d k_X2_allWorth 4 [some (.inr (.inr 122)), some (.inl l1_1), some (.inl l2_2)] [] (SH L0, D) (some (.inl t0), (SH L0, D))
  unfold b_X2_allWorth_4 at hb
  rcases ite_or hb with ⟨hc, hb⟩ | ⟨hc, hb⟩
  · refine ev_ift hc 5 (pc' := 15) (L' := [some (.inr (.inr 122)), some (.inl l1_1), some (.inl l2_2)]) (S' := []) (σ' := (SH L0, D)) (fun _ _ => rfl) ?_
    obtain ⟨x3, hx, hb⟩ := bnd hb
    refine ev_call (e_X2_worthOf L0 d (by omega) hx) 4 (pc' := 21) (L' := [some (.inr (.inr 122)), some (.inl l1_1), some (.inl l2_2)]) (S' := [.inl l1_1]) (fun _ _ => rfl) ?_
    cases hb
    exact ev_go 4 (pc' := 4) (L' := [some (.inr (.inr 122)), some (.inl (w32 (l1_1 + x3))), some (.inl (w32 (l2_2 + 1)))]) (S' := []) (σ' := (SH L0, D)) (fun _ _ => rfl) hK0
  · refine ev_iff hc 5 (pc' := 29) (L' := [some (.inr (.inr 122)), some (.inl l1_1), some (.inl l2_2)]) (S' := []) (σ' := (SH L0, D)) (fun _ _ => rfl) ?_
    cases hb
    exact hK0 (some (.inl l2_2))
set_option maxRecDepth 100000 in
set_option maxHeartbeats 4000000 in
theorem e_X2_broken (L0 d : Nat) (hd : 1 ≤ d) {D : DT} {t0 : Int} (h : m_X2_broken  D = some t0) : Ret mtab d 38 [.inr (.inr 122)] (SH L0, D) (some (.inl t0), (SH L0, D)) := by
  obtain ⟨d, rfl⟩ : ∃ e, d = e + 1 := ⟨d - 1, by omega⟩
  refine Ret.of (code := k_X2_broken) (ml := 3) rfl ?_
  show EvF mtab d k_X2_broken 0 [some (.inr (.inr 122)), none, none] [] (SH L0, D) (some (.inl t0), (SH L0, D))
  unfold m_X2_broken at h
  obtain ⟨r, hr, h⟩ := bnd h
  have hX : (fun (r : Int) => ∀ (o6 : Option (Sum Int Nat)), EvF mtab d k_X2_broken 33 [some (.inr (.inr 122)), some (.inl r), dv o6] [] (SH L0, D) (some (.inl t0), (SH L0, D))) r := by
    obtain ⟨l1_5, hre⟩ : ∃ q, q = r := ⟨r, rfl⟩
    subst hre
    intro o6
    show EvF mtab d k_X2_broken 33 [some (.inr (.inr 122)), some (.inl l1_5), dv o6] [] (SH L0, D) (some (.inl t0), (SH L0, D))
    cases h
    exact ev_ret 2 (fun _ _ => rfl)
  clear h
  refine ev_go 4 (pc' := 4) (L' := [some (.inr (.inr 122)), some (.inl 0), some (.inl 0)]) (S' := []) (σ' := (SH L0, D)) (fun _ _ => rfl) ?_
  refine loop_ind (P := fun s => EvF mtab d k_X2_broken 4 [some (.inr (.inr 122)), some (.inl s.1), some (.inl s.2)] [] (SH L0, D) (some (.inl t0), (SH L0, D))) (X := fun r => ∀ (o6 : Option (Sum Int Nat)), EvF mtab d k_X2_broken 33 [some (.inr (.inr 122)), some (.inl r), dv o6] [] (SH L0, D) (some (.inl t0), (SH L0, D))) hr hX ?_
  clear hr hX
  intro s t hb hK0
  obtain ⟨l1_1, l2_2⟩ := s
  show EvF mtab d k_X2_broken 4 [some (.inr (.inr 122)), some (.inl l1_1), some (.inl l2_2)] [] (SH L0, D) (some (.inl t0), (SH L0, D))
  unfold b_X2_broken_4 at hb
  rcases ite_or hb with ⟨hc, hb⟩ | ⟨hc, hb⟩
  · refine ev_ift hc 5 (pc' := 15) (L' := [some (.inr (.inr 122)), some (.inl l1_1), some (.inl l2_2)]) (S' := []) (σ' := (SH L0, D)) (fun _ _ => rfl) ?_
    obtain ⟨x3, hx, hb⟩ := bnd hb
    refine ev_bind hx 4 (pc' := 21) (L' := fun x3 => [some (.inr (.inr 122)), some (.inl l1_1), some (.inl l2_2)]) (S' := fun x3 => [.inl x3]) (σ' := fun x3 => (SH L0, D)) (fun _ _ => rfl) ?_
    obtain ⟨l1_4, hv, hb⟩ := bnd hb
    have hJ : EvF mtab d k_X2_broken 27 [some (.inr (.inr 122)), some (.inl l1_4), some (.inl l2_2)] [] (SH L0, D) (some (.inl t0), (SH L0, D)) := by
      cases hb
      exact ev_go 2 (pc' := 4) (L' := [some (.inr (.inr 122)), some (.inl l1_4), some (.inl (w32 (l2_2 + 1)))]) (S' := []) (σ' := (SH L0, D)) (fun _ _ => rfl) hK0
    clear hb
    rcases ite_or hv with ⟨hc, hv⟩ | ⟨hc, hv⟩
    · refine ev_ift hc 1 (pc' := 24) (L' := [some (.inr (.inr 122)), some (.inl l1_1), some (.inl l2_2)]) (S' := []) (σ' := (SH L0, D)) (fun _ _ => rfl) ?_
      have he0 := Option.some.inj hv
      subst he0
      exact ev_go 1 (pc' := 27) (L' := [some (.inr (.inr 122)), some (.inl (w32 (l1_1 + 1))), some (.inl l2_2)]) (S' := []) (σ' := (SH L0, D)) (fun _ _ => rfl) hJ
    · refine ev_iff hc 1 (pc' := 27) (L' := [some (.inr (.inr 122)), some (.inl l1_1), some (.inl l2_2)]) (S' := []) (σ' := (SH L0, D)) (fun _ _ => rfl) ?_
      have he0 := Option.some.inj hv
      subst he0
      exact hJ
  · refine ev_iff hc 5 (pc' := 33) (L' := [some (.inr (.inr 122)), some (.inl l1_1), some (.inl l2_2)]) (S' := []) (σ' := (SH L0, D)) (fun _ _ => rfl) ?_
    cases hb
    exact hK0 (some (.inl l2_2))
set_option maxRecDepth 100000 in
set_option maxHeartbeats 4000000 in
theorem e_X2_mending (L0 d : Nat) (hd : 1 ≤ d) {D : DT} {t0 : Int} (h : m_X2_mending  D = some t0) : Ret mtab d 39 [.inr (.inr 122)] (SH L0, D) (some (.inl t0), (SH L0, D)) := by
  obtain ⟨d, rfl⟩ : ∃ e, d = e + 1 := ⟨d - 1, by omega⟩
  refine Ret.of (code := k_X2_mending) (ml := 3) rfl ?_
  show EvF mtab d k_X2_mending 0 [some (.inr (.inr 122)), none, none] [] (SH L0, D) (some (.inl t0), (SH L0, D))
  unfold m_X2_mending at h
  obtain ⟨r, hr, h⟩ := bnd h
  have hX : (fun (r : Int) => ∀ (o6 : Option (Sum Int Nat)), EvF mtab d k_X2_mending 43 [some (.inr (.inr 122)), some (.inl r), dv o6] [] (SH L0, D) (some (.inl t0), (SH L0, D))) r := by
    obtain ⟨l1_5, hre⟩ : ∃ q, q = r := ⟨r, rfl⟩
    subst hre
    intro o6
    show EvF mtab d k_X2_mending 43 [some (.inr (.inr 122)), some (.inl l1_5), dv o6] [] (SH L0, D) (some (.inl t0), (SH L0, D))
    cases h
    exact ev_ret 2 (fun _ _ => rfl)
  clear h
  refine ev_go 4 (pc' := 4) (L' := [some (.inr (.inr 122)), some (.inl 0), some (.inl 0)]) (S' := []) (σ' := (SH L0, D)) (fun _ _ => rfl) ?_
  refine loop_ind (P := fun s => EvF mtab d k_X2_mending 4 [some (.inr (.inr 122)), some (.inl s.1), some (.inl s.2)] [] (SH L0, D) (some (.inl t0), (SH L0, D))) (X := fun r => ∀ (o6 : Option (Sum Int Nat)), EvF mtab d k_X2_mending 43 [some (.inr (.inr 122)), some (.inl r), dv o6] [] (SH L0, D) (some (.inl t0), (SH L0, D))) hr hX ?_
  clear hr hX
  intro s t hb hK0
  obtain ⟨l1_1, l2_2⟩ := s
  show EvF mtab d k_X2_mending 4 [some (.inr (.inr 122)), some (.inl l1_1), some (.inl l2_2)] [] (SH L0, D) (some (.inl t0), (SH L0, D))
  unfold b_X2_mending_4 at hb
  rcases ite_or hb with ⟨hc, hb⟩ | ⟨hc, hb⟩
  · refine ev_ift hc 5 (pc' := 15) (L' := [some (.inr (.inr 122)), some (.inl l1_1), some (.inl l2_2)]) (S' := []) (σ' := (SH L0, D)) (fun _ _ => rfl) ?_
    obtain ⟨x3, hx, hb⟩ := bnd hb
    refine ev_bind hx 5 (pc' := 22) (L' := fun x3 => [some (.inr (.inr 122)), some (.inl l1_1), some (.inl l2_2)]) (S' := fun x3 => [.inl x3, .inl l1_1]) (σ' := fun x3 => (SH L0, D)) (fun _ _ => rfl) ?_
    obtain ⟨x4, hx, hb⟩ := bnd hb
    refine ev_bind hx 5 (pc' := 31) (L' := fun x4 => [some (.inr (.inr 122)), some (.inl l1_1), some (.inl l2_2)]) (S' := fun x4 => [.inl x4, .inl x3, .inl l1_1]) (σ' := fun x4 => (SH L0, D)) (fun _ _ => rfl) ?_
    cases hb
    exact ev_go 6 (pc' := 4) (L' := [some (.inr (.inr 122)), some (.inl (w32 (l1_1 + (if 0 ≤ (w32 (x3 - x4)) then w32 (x3 - x4) else w32 (-(w32 (x3 - x4))))))), some (.inl (w32 (l2_2 + 1)))]) (S' := []) (σ' := (SH L0, D)) (fun _ _ => rfl) hK0
  · refine ev_iff hc 5 (pc' := 43) (L' := [some (.inr (.inr 122)), some (.inl l1_1), some (.inl l2_2)]) (S' := []) (σ' := (SH L0, D)) (fun _ _ => rfl) ?_
    cases hb
    exact hK0 (some (.inl l2_2))
set_option maxRecDepth 100000 in
set_option maxHeartbeats 4000000 in
theorem e_X7_copy_4_19 (L0 d : Nat) (hd : 1 ≤ d) {D : DT} {t0 : DT} (h : m_X7_copy 4 19 D = some t0) : Ret mtab d 73 [.inr (.inr 4), .inr (.inr 19)] (SH L0, D) (none, (SH L0, t0)) := by
  obtain ⟨d, rfl⟩ : ∃ e, d = e + 1 := ⟨d - 1, by omega⟩
  refine Ret.of (code := k_X7_copy) (ml := 2) rfl ?_
  show EvF mtab d k_X7_copy 0 [some (.inr (.inr 4)), some (.inr (.inr 19))] [] (SH L0, D) (none, (SH L0, t0))
  unfold m_X7_copy at h
  obtain ⟨D1, hx, h⟩ := bnd h
  refine ev_bind hx 36 (pc' := 71) (L' := fun D1 => [some (.inr (.inr 4)), some (.inr (.inr 19))]) (S' := fun D1 => []) (σ' := fun D1 => (SH L0, D1)) (fun _ _ => rfl) ?_
  obtain ⟨D2, hx, h⟩ := bnd h
  refine ev_bind hx 8 (pc' := 86) (L' := fun D2 => [some (.inr (.inr 4)), some (.inr (.inr 19))]) (S' := fun D2 => []) (σ' := fun D2 => (SH L0, D2)) (fun _ _ => rfl) ?_
  obtain ⟨D3, hx, h⟩ := bnd h
  refine ev_bind hx 8 (pc' := 101) (L' := fun D3 => [some (.inr (.inr 4)), some (.inr (.inr 19))]) (S' := fun D3 => []) (σ' := fun D3 => (SH L0, D3)) (fun _ _ => rfl) ?_
  obtain ⟨D4, hx, h⟩ := bnd h
  refine ev_bind hx 8 (pc' := 116) (L' := fun D4 => [some (.inr (.inr 4)), some (.inr (.inr 19))]) (S' := fun D4 => []) (σ' := fun D4 => (SH L0, D4)) (fun _ _ => rfl) ?_
  obtain ⟨D5, hx, h⟩ := bnd h
  refine ev_bind hx 8 (pc' := 131) (L' := fun D5 => [some (.inr (.inr 4)), some (.inr (.inr 19))]) (S' := fun D5 => []) (σ' := fun D5 => (SH L0, D5)) (fun _ _ => rfl) ?_
  obtain ⟨D6, hx, h⟩ := bnd h
  refine ev_bind hx 8 (pc' := 146) (L' := fun D6 => [some (.inr (.inr 4)), some (.inr (.inr 19))]) (S' := fun D6 => []) (σ' := fun D6 => (SH L0, D6)) (fun _ _ => rfl) ?_
  obtain ⟨D7, hx, h⟩ := bnd h
  refine ev_bind hx 8 (pc' := 161) (L' := fun D7 => [some (.inr (.inr 4)), some (.inr (.inr 19))]) (S' := fun D7 => []) (σ' := fun D7 => (SH L0, D7)) (fun _ _ => rfl) ?_
  obtain ⟨D8, hx, h⟩ := bnd h
  refine ev_bind hx 8 (pc' := 176) (L' := fun D8 => [some (.inr (.inr 4)), some (.inr (.inr 19))]) (S' := fun D8 => []) (σ' := fun D8 => (SH L0, D8)) (fun _ _ => rfl) ?_
  obtain ⟨D9, hx, h⟩ := bnd h
  refine ev_bind hx 8 (pc' := 191) (L' := fun D9 => [some (.inr (.inr 4)), some (.inr (.inr 19))]) (S' := fun D9 => []) (σ' := fun D9 => (SH L0, D9)) (fun _ _ => rfl) ?_
  obtain ⟨D10, hx, h⟩ := bnd h
  refine ev_bind hx 8 (pc' := 206) (L' := fun D10 => [some (.inr (.inr 4)), some (.inr (.inr 19))]) (S' := fun D10 => []) (σ' := fun D10 => (SH L0, D10)) (fun _ _ => rfl) ?_
  obtain ⟨D11, hx, h⟩ := bnd h
  refine ev_bind hx 8 (pc' := 221) (L' := fun D11 => [some (.inr (.inr 4)), some (.inr (.inr 19))]) (S' := fun D11 => []) (σ' := fun D11 => (SH L0, D11)) (fun _ _ => rfl) ?_
  obtain ⟨D12, hx, h⟩ := bnd h
  refine ev_bind hx 8 (pc' := 236) (L' := fun D12 => [some (.inr (.inr 4)), some (.inr (.inr 19))]) (S' := fun D12 => []) (σ' := fun D12 => (SH L0, D12)) (fun _ _ => rfl) ?_
  obtain ⟨D13, hx, h⟩ := bnd h
  refine ev_bind hx 8 (pc' := 251) (L' := fun D13 => [some (.inr (.inr 4)), some (.inr (.inr 19))]) (S' := fun D13 => []) (σ' := fun D13 => (SH L0, D13)) (fun _ _ => rfl) ?_
  cases h
  exact ev_ret 1 (fun _ _ => rfl)
set_option maxRecDepth 100000 in
set_option maxHeartbeats 4000000 in
theorem e_X7_copy_4_38 (L0 d : Nat) (hd : 1 ≤ d) {D : DT} {t0 : DT} (h : m_X7_copy 4 38 D = some t0) : Ret mtab d 73 [.inr (.inr 4), .inr (.inr 38)] (SH L0, D) (none, (SH L0, t0)) := by
  obtain ⟨d, rfl⟩ : ∃ e, d = e + 1 := ⟨d - 1, by omega⟩
  refine Ret.of (code := k_X7_copy) (ml := 2) rfl ?_
  show EvF mtab d k_X7_copy 0 [some (.inr (.inr 4)), some (.inr (.inr 38))] [] (SH L0, D) (none, (SH L0, t0))
  unfold m_X7_copy at h
  obtain ⟨D1, hx, h⟩ := bnd h
  refine ev_bind hx 36 (pc' := 71) (L' := fun D1 => [some (.inr (.inr 4)), some (.inr (.inr 38))]) (S' := fun D1 => []) (σ' := fun D1 => (SH L0, D1)) (fun _ _ => rfl) ?_
  obtain ⟨D2, hx, h⟩ := bnd h
  refine ev_bind hx 8 (pc' := 86) (L' := fun D2 => [some (.inr (.inr 4)), some (.inr (.inr 38))]) (S' := fun D2 => []) (σ' := fun D2 => (SH L0, D2)) (fun _ _ => rfl) ?_
  obtain ⟨D3, hx, h⟩ := bnd h
  refine ev_bind hx 8 (pc' := 101) (L' := fun D3 => [some (.inr (.inr 4)), some (.inr (.inr 38))]) (S' := fun D3 => []) (σ' := fun D3 => (SH L0, D3)) (fun _ _ => rfl) ?_
  obtain ⟨D4, hx, h⟩ := bnd h
  refine ev_bind hx 8 (pc' := 116) (L' := fun D4 => [some (.inr (.inr 4)), some (.inr (.inr 38))]) (S' := fun D4 => []) (σ' := fun D4 => (SH L0, D4)) (fun _ _ => rfl) ?_
  obtain ⟨D5, hx, h⟩ := bnd h
  refine ev_bind hx 8 (pc' := 131) (L' := fun D5 => [some (.inr (.inr 4)), some (.inr (.inr 38))]) (S' := fun D5 => []) (σ' := fun D5 => (SH L0, D5)) (fun _ _ => rfl) ?_
  obtain ⟨D6, hx, h⟩ := bnd h
  refine ev_bind hx 8 (pc' := 146) (L' := fun D6 => [some (.inr (.inr 4)), some (.inr (.inr 38))]) (S' := fun D6 => []) (σ' := fun D6 => (SH L0, D6)) (fun _ _ => rfl) ?_
  obtain ⟨D7, hx, h⟩ := bnd h
  refine ev_bind hx 8 (pc' := 161) (L' := fun D7 => [some (.inr (.inr 4)), some (.inr (.inr 38))]) (S' := fun D7 => []) (σ' := fun D7 => (SH L0, D7)) (fun _ _ => rfl) ?_
  obtain ⟨D8, hx, h⟩ := bnd h
  refine ev_bind hx 8 (pc' := 176) (L' := fun D8 => [some (.inr (.inr 4)), some (.inr (.inr 38))]) (S' := fun D8 => []) (σ' := fun D8 => (SH L0, D8)) (fun _ _ => rfl) ?_
  obtain ⟨D9, hx, h⟩ := bnd h
  refine ev_bind hx 8 (pc' := 191) (L' := fun D9 => [some (.inr (.inr 4)), some (.inr (.inr 38))]) (S' := fun D9 => []) (σ' := fun D9 => (SH L0, D9)) (fun _ _ => rfl) ?_
  obtain ⟨D10, hx, h⟩ := bnd h
  refine ev_bind hx 8 (pc' := 206) (L' := fun D10 => [some (.inr (.inr 4)), some (.inr (.inr 38))]) (S' := fun D10 => []) (σ' := fun D10 => (SH L0, D10)) (fun _ _ => rfl) ?_
  obtain ⟨D11, hx, h⟩ := bnd h
  refine ev_bind hx 8 (pc' := 221) (L' := fun D11 => [some (.inr (.inr 4)), some (.inr (.inr 38))]) (S' := fun D11 => []) (σ' := fun D11 => (SH L0, D11)) (fun _ _ => rfl) ?_
  obtain ⟨D12, hx, h⟩ := bnd h
  refine ev_bind hx 8 (pc' := 236) (L' := fun D12 => [some (.inr (.inr 4)), some (.inr (.inr 38))]) (S' := fun D12 => []) (σ' := fun D12 => (SH L0, D12)) (fun _ _ => rfl) ?_
  obtain ⟨D13, hx, h⟩ := bnd h
  refine ev_bind hx 8 (pc' := 251) (L' := fun D13 => [some (.inr (.inr 4)), some (.inr (.inr 38))]) (S' := fun D13 => []) (σ' := fun D13 => (SH L0, D13)) (fun _ _ => rfl) ?_
  cases h
  exact ev_ret 1 (fun _ _ => rfl)
set_option maxRecDepth 100000 in
set_option maxHeartbeats 4000000 in
theorem e_X7_copy_4_52 (L0 d : Nat) (hd : 1 ≤ d) {D : DT} {t0 : DT} (h : m_X7_copy 4 52 D = some t0) : Ret mtab d 73 [.inr (.inr 4), .inr (.inr 52)] (SH L0, D) (none, (SH L0, t0)) := by
  obtain ⟨d, rfl⟩ : ∃ e, d = e + 1 := ⟨d - 1, by omega⟩
  refine Ret.of (code := k_X7_copy) (ml := 2) rfl ?_
  show EvF mtab d k_X7_copy 0 [some (.inr (.inr 4)), some (.inr (.inr 52))] [] (SH L0, D) (none, (SH L0, t0))
  unfold m_X7_copy at h
  obtain ⟨D1, hx, h⟩ := bnd h
  refine ev_bind hx 36 (pc' := 71) (L' := fun D1 => [some (.inr (.inr 4)), some (.inr (.inr 52))]) (S' := fun D1 => []) (σ' := fun D1 => (SH L0, D1)) (fun _ _ => rfl) ?_
  obtain ⟨D2, hx, h⟩ := bnd h
  refine ev_bind hx 8 (pc' := 86) (L' := fun D2 => [some (.inr (.inr 4)), some (.inr (.inr 52))]) (S' := fun D2 => []) (σ' := fun D2 => (SH L0, D2)) (fun _ _ => rfl) ?_
  obtain ⟨D3, hx, h⟩ := bnd h
  refine ev_bind hx 8 (pc' := 101) (L' := fun D3 => [some (.inr (.inr 4)), some (.inr (.inr 52))]) (S' := fun D3 => []) (σ' := fun D3 => (SH L0, D3)) (fun _ _ => rfl) ?_
  obtain ⟨D4, hx, h⟩ := bnd h
  refine ev_bind hx 8 (pc' := 116) (L' := fun D4 => [some (.inr (.inr 4)), some (.inr (.inr 52))]) (S' := fun D4 => []) (σ' := fun D4 => (SH L0, D4)) (fun _ _ => rfl) ?_
  obtain ⟨D5, hx, h⟩ := bnd h
  refine ev_bind hx 8 (pc' := 131) (L' := fun D5 => [some (.inr (.inr 4)), some (.inr (.inr 52))]) (S' := fun D5 => []) (σ' := fun D5 => (SH L0, D5)) (fun _ _ => rfl) ?_
  obtain ⟨D6, hx, h⟩ := bnd h
  refine ev_bind hx 8 (pc' := 146) (L' := fun D6 => [some (.inr (.inr 4)), some (.inr (.inr 52))]) (S' := fun D6 => []) (σ' := fun D6 => (SH L0, D6)) (fun _ _ => rfl) ?_
  obtain ⟨D7, hx, h⟩ := bnd h
  refine ev_bind hx 8 (pc' := 161) (L' := fun D7 => [some (.inr (.inr 4)), some (.inr (.inr 52))]) (S' := fun D7 => []) (σ' := fun D7 => (SH L0, D7)) (fun _ _ => rfl) ?_
  obtain ⟨D8, hx, h⟩ := bnd h
  refine ev_bind hx 8 (pc' := 176) (L' := fun D8 => [some (.inr (.inr 4)), some (.inr (.inr 52))]) (S' := fun D8 => []) (σ' := fun D8 => (SH L0, D8)) (fun _ _ => rfl) ?_
  obtain ⟨D9, hx, h⟩ := bnd h
  refine ev_bind hx 8 (pc' := 191) (L' := fun D9 => [some (.inr (.inr 4)), some (.inr (.inr 52))]) (S' := fun D9 => []) (σ' := fun D9 => (SH L0, D9)) (fun _ _ => rfl) ?_
  obtain ⟨D10, hx, h⟩ := bnd h
  refine ev_bind hx 8 (pc' := 206) (L' := fun D10 => [some (.inr (.inr 4)), some (.inr (.inr 52))]) (S' := fun D10 => []) (σ' := fun D10 => (SH L0, D10)) (fun _ _ => rfl) ?_
  obtain ⟨D11, hx, h⟩ := bnd h
  refine ev_bind hx 8 (pc' := 221) (L' := fun D11 => [some (.inr (.inr 4)), some (.inr (.inr 52))]) (S' := fun D11 => []) (σ' := fun D11 => (SH L0, D11)) (fun _ _ => rfl) ?_
  obtain ⟨D12, hx, h⟩ := bnd h
  refine ev_bind hx 8 (pc' := 236) (L' := fun D12 => [some (.inr (.inr 4)), some (.inr (.inr 52))]) (S' := fun D12 => []) (σ' := fun D12 => (SH L0, D12)) (fun _ _ => rfl) ?_
  obtain ⟨D13, hx, h⟩ := bnd h
  refine ev_bind hx 8 (pc' := 251) (L' := fun D13 => [some (.inr (.inr 4)), some (.inr (.inr 52))]) (S' := fun D13 => []) (σ' := fun D13 => (SH L0, D13)) (fun _ _ => rfl) ?_
  cases h
  exact ev_ret 1 (fun _ _ => rfl)
set_option maxRecDepth 100000 in
set_option maxHeartbeats 4000000 in
theorem e_X7_copy_4_66 (L0 d : Nat) (hd : 1 ≤ d) {D : DT} {t0 : DT} (h : m_X7_copy 4 66 D = some t0) : Ret mtab d 73 [.inr (.inr 4), .inr (.inr 66)] (SH L0, D) (none, (SH L0, t0)) := by
  obtain ⟨d, rfl⟩ : ∃ e, d = e + 1 := ⟨d - 1, by omega⟩
  refine Ret.of (code := k_X7_copy) (ml := 2) rfl ?_
  show EvF mtab d k_X7_copy 0 [some (.inr (.inr 4)), some (.inr (.inr 66))] [] (SH L0, D) (none, (SH L0, t0))
  unfold m_X7_copy at h
  obtain ⟨D1, hx, h⟩ := bnd h
  refine ev_bind hx 36 (pc' := 71) (L' := fun D1 => [some (.inr (.inr 4)), some (.inr (.inr 66))]) (S' := fun D1 => []) (σ' := fun D1 => (SH L0, D1)) (fun _ _ => rfl) ?_
  obtain ⟨D2, hx, h⟩ := bnd h
  refine ev_bind hx 8 (pc' := 86) (L' := fun D2 => [some (.inr (.inr 4)), some (.inr (.inr 66))]) (S' := fun D2 => []) (σ' := fun D2 => (SH L0, D2)) (fun _ _ => rfl) ?_
  obtain ⟨D3, hx, h⟩ := bnd h
  refine ev_bind hx 8 (pc' := 101) (L' := fun D3 => [some (.inr (.inr 4)), some (.inr (.inr 66))]) (S' := fun D3 => []) (σ' := fun D3 => (SH L0, D3)) (fun _ _ => rfl) ?_
  obtain ⟨D4, hx, h⟩ := bnd h
  refine ev_bind hx 8 (pc' := 116) (L' := fun D4 => [some (.inr (.inr 4)), some (.inr (.inr 66))]) (S' := fun D4 => []) (σ' := fun D4 => (SH L0, D4)) (fun _ _ => rfl) ?_
  obtain ⟨D5, hx, h⟩ := bnd h
  refine ev_bind hx 8 (pc' := 131) (L' := fun D5 => [some (.inr (.inr 4)), some (.inr (.inr 66))]) (S' := fun D5 => []) (σ' := fun D5 => (SH L0, D5)) (fun _ _ => rfl) ?_
  obtain ⟨D6, hx, h⟩ := bnd h
  refine ev_bind hx 8 (pc' := 146) (L' := fun D6 => [some (.inr (.inr 4)), some (.inr (.inr 66))]) (S' := fun D6 => []) (σ' := fun D6 => (SH L0, D6)) (fun _ _ => rfl) ?_
  obtain ⟨D7, hx, h⟩ := bnd h
  refine ev_bind hx 8 (pc' := 161) (L' := fun D7 => [some (.inr (.inr 4)), some (.inr (.inr 66))]) (S' := fun D7 => []) (σ' := fun D7 => (SH L0, D7)) (fun _ _ => rfl) ?_
  obtain ⟨D8, hx, h⟩ := bnd h
  refine ev_bind hx 8 (pc' := 176) (L' := fun D8 => [some (.inr (.inr 4)), some (.inr (.inr 66))]) (S' := fun D8 => []) (σ' := fun D8 => (SH L0, D8)) (fun _ _ => rfl) ?_
  obtain ⟨D9, hx, h⟩ := bnd h
  refine ev_bind hx 8 (pc' := 191) (L' := fun D9 => [some (.inr (.inr 4)), some (.inr (.inr 66))]) (S' := fun D9 => []) (σ' := fun D9 => (SH L0, D9)) (fun _ _ => rfl) ?_
  obtain ⟨D10, hx, h⟩ := bnd h
  refine ev_bind hx 8 (pc' := 206) (L' := fun D10 => [some (.inr (.inr 4)), some (.inr (.inr 66))]) (S' := fun D10 => []) (σ' := fun D10 => (SH L0, D10)) (fun _ _ => rfl) ?_
  obtain ⟨D11, hx, h⟩ := bnd h
  refine ev_bind hx 8 (pc' := 221) (L' := fun D11 => [some (.inr (.inr 4)), some (.inr (.inr 66))]) (S' := fun D11 => []) (σ' := fun D11 => (SH L0, D11)) (fun _ _ => rfl) ?_
  obtain ⟨D12, hx, h⟩ := bnd h
  refine ev_bind hx 8 (pc' := 236) (L' := fun D12 => [some (.inr (.inr 4)), some (.inr (.inr 66))]) (S' := fun D12 => []) (σ' := fun D12 => (SH L0, D12)) (fun _ _ => rfl) ?_
  obtain ⟨D13, hx, h⟩ := bnd h
  refine ev_bind hx 8 (pc' := 251) (L' := fun D13 => [some (.inr (.inr 4)), some (.inr (.inr 66))]) (S' := fun D13 => []) (σ' := fun D13 => (SH L0, D13)) (fun _ _ => rfl) ?_
  cases h
  exact ev_ret 1 (fun _ _ => rfl)
set_option maxRecDepth 100000 in
set_option maxHeartbeats 4000000 in
theorem e_X7_copy_4_80 (L0 d : Nat) (hd : 1 ≤ d) {D : DT} {t0 : DT} (h : m_X7_copy 4 80 D = some t0) : Ret mtab d 73 [.inr (.inr 4), .inr (.inr 80)] (SH L0, D) (none, (SH L0, t0)) := by
  obtain ⟨d, rfl⟩ : ∃ e, d = e + 1 := ⟨d - 1, by omega⟩
  refine Ret.of (code := k_X7_copy) (ml := 2) rfl ?_
  show EvF mtab d k_X7_copy 0 [some (.inr (.inr 4)), some (.inr (.inr 80))] [] (SH L0, D) (none, (SH L0, t0))
  unfold m_X7_copy at h
  obtain ⟨D1, hx, h⟩ := bnd h
  refine ev_bind hx 36 (pc' := 71) (L' := fun D1 => [some (.inr (.inr 4)), some (.inr (.inr 80))]) (S' := fun D1 => []) (σ' := fun D1 => (SH L0, D1)) (fun _ _ => rfl) ?_
  obtain ⟨D2, hx, h⟩ := bnd h
  refine ev_bind hx 8 (pc' := 86) (L' := fun D2 => [some (.inr (.inr 4)), some (.inr (.inr 80))]) (S' := fun D2 => []) (σ' := fun D2 => (SH L0, D2)) (fun _ _ => rfl) ?_
  obtain ⟨D3, hx, h⟩ := bnd h
  refine ev_bind hx 8 (pc' := 101) (L' := fun D3 => [some (.inr (.inr 4)), some (.inr (.inr 80))]) (S' := fun D3 => []) (σ' := fun D3 => (SH L0, D3)) (fun _ _ => rfl) ?_
  obtain ⟨D4, hx, h⟩ := bnd h
  refine ev_bind hx 8 (pc' := 116) (L' := fun D4 => [some (.inr (.inr 4)), some (.inr (.inr 80))]) (S' := fun D4 => []) (σ' := fun D4 => (SH L0, D4)) (fun _ _ => rfl) ?_
  obtain ⟨D5, hx, h⟩ := bnd h
  refine ev_bind hx 8 (pc' := 131) (L' := fun D5 => [some (.inr (.inr 4)), some (.inr (.inr 80))]) (S' := fun D5 => []) (σ' := fun D5 => (SH L0, D5)) (fun _ _ => rfl) ?_
  obtain ⟨D6, hx, h⟩ := bnd h
  refine ev_bind hx 8 (pc' := 146) (L' := fun D6 => [some (.inr (.inr 4)), some (.inr (.inr 80))]) (S' := fun D6 => []) (σ' := fun D6 => (SH L0, D6)) (fun _ _ => rfl) ?_
  obtain ⟨D7, hx, h⟩ := bnd h
  refine ev_bind hx 8 (pc' := 161) (L' := fun D7 => [some (.inr (.inr 4)), some (.inr (.inr 80))]) (S' := fun D7 => []) (σ' := fun D7 => (SH L0, D7)) (fun _ _ => rfl) ?_
  obtain ⟨D8, hx, h⟩ := bnd h
  refine ev_bind hx 8 (pc' := 176) (L' := fun D8 => [some (.inr (.inr 4)), some (.inr (.inr 80))]) (S' := fun D8 => []) (σ' := fun D8 => (SH L0, D8)) (fun _ _ => rfl) ?_
  obtain ⟨D9, hx, h⟩ := bnd h
  refine ev_bind hx 8 (pc' := 191) (L' := fun D9 => [some (.inr (.inr 4)), some (.inr (.inr 80))]) (S' := fun D9 => []) (σ' := fun D9 => (SH L0, D9)) (fun _ _ => rfl) ?_
  obtain ⟨D10, hx, h⟩ := bnd h
  refine ev_bind hx 8 (pc' := 206) (L' := fun D10 => [some (.inr (.inr 4)), some (.inr (.inr 80))]) (S' := fun D10 => []) (σ' := fun D10 => (SH L0, D10)) (fun _ _ => rfl) ?_
  obtain ⟨D11, hx, h⟩ := bnd h
  refine ev_bind hx 8 (pc' := 221) (L' := fun D11 => [some (.inr (.inr 4)), some (.inr (.inr 80))]) (S' := fun D11 => []) (σ' := fun D11 => (SH L0, D11)) (fun _ _ => rfl) ?_
  obtain ⟨D12, hx, h⟩ := bnd h
  refine ev_bind hx 8 (pc' := 236) (L' := fun D12 => [some (.inr (.inr 4)), some (.inr (.inr 80))]) (S' := fun D12 => []) (σ' := fun D12 => (SH L0, D12)) (fun _ _ => rfl) ?_
  obtain ⟨D13, hx, h⟩ := bnd h
  refine ev_bind hx 8 (pc' := 251) (L' := fun D13 => [some (.inr (.inr 4)), some (.inr (.inr 80))]) (S' := fun D13 => []) (σ' := fun D13 => (SH L0, D13)) (fun _ _ => rfl) ?_
  cases h
  exact ev_ret 1 (fun _ _ => rfl)
set_option maxRecDepth 100000 in
set_option maxHeartbeats 4000000 in
theorem e_X7_copy_4_94 (L0 d : Nat) (hd : 1 ≤ d) {D : DT} {t0 : DT} (h : m_X7_copy 4 94 D = some t0) : Ret mtab d 73 [.inr (.inr 4), .inr (.inr 94)] (SH L0, D) (none, (SH L0, t0)) := by
  obtain ⟨d, rfl⟩ : ∃ e, d = e + 1 := ⟨d - 1, by omega⟩
  refine Ret.of (code := k_X7_copy) (ml := 2) rfl ?_
  show EvF mtab d k_X7_copy 0 [some (.inr (.inr 4)), some (.inr (.inr 94))] [] (SH L0, D) (none, (SH L0, t0))
  unfold m_X7_copy at h
  obtain ⟨D1, hx, h⟩ := bnd h
  refine ev_bind hx 36 (pc' := 71) (L' := fun D1 => [some (.inr (.inr 4)), some (.inr (.inr 94))]) (S' := fun D1 => []) (σ' := fun D1 => (SH L0, D1)) (fun _ _ => rfl) ?_
  obtain ⟨D2, hx, h⟩ := bnd h
  refine ev_bind hx 8 (pc' := 86) (L' := fun D2 => [some (.inr (.inr 4)), some (.inr (.inr 94))]) (S' := fun D2 => []) (σ' := fun D2 => (SH L0, D2)) (fun _ _ => rfl) ?_
  obtain ⟨D3, hx, h⟩ := bnd h
  refine ev_bind hx 8 (pc' := 101) (L' := fun D3 => [some (.inr (.inr 4)), some (.inr (.inr 94))]) (S' := fun D3 => []) (σ' := fun D3 => (SH L0, D3)) (fun _ _ => rfl) ?_
  obtain ⟨D4, hx, h⟩ := bnd h
  refine ev_bind hx 8 (pc' := 116) (L' := fun D4 => [some (.inr (.inr 4)), some (.inr (.inr 94))]) (S' := fun D4 => []) (σ' := fun D4 => (SH L0, D4)) (fun _ _ => rfl) ?_
  obtain ⟨D5, hx, h⟩ := bnd h
  refine ev_bind hx 8 (pc' := 131) (L' := fun D5 => [some (.inr (.inr 4)), some (.inr (.inr 94))]) (S' := fun D5 => []) (σ' := fun D5 => (SH L0, D5)) (fun _ _ => rfl) ?_
  obtain ⟨D6, hx, h⟩ := bnd h
  refine ev_bind hx 8 (pc' := 146) (L' := fun D6 => [some (.inr (.inr 4)), some (.inr (.inr 94))]) (S' := fun D6 => []) (σ' := fun D6 => (SH L0, D6)) (fun _ _ => rfl) ?_
  obtain ⟨D7, hx, h⟩ := bnd h
  refine ev_bind hx 8 (pc' := 161) (L' := fun D7 => [some (.inr (.inr 4)), some (.inr (.inr 94))]) (S' := fun D7 => []) (σ' := fun D7 => (SH L0, D7)) (fun _ _ => rfl) ?_
  obtain ⟨D8, hx, h⟩ := bnd h
  refine ev_bind hx 8 (pc' := 176) (L' := fun D8 => [some (.inr (.inr 4)), some (.inr (.inr 94))]) (S' := fun D8 => []) (σ' := fun D8 => (SH L0, D8)) (fun _ _ => rfl) ?_
  obtain ⟨D9, hx, h⟩ := bnd h
  refine ev_bind hx 8 (pc' := 191) (L' := fun D9 => [some (.inr (.inr 4)), some (.inr (.inr 94))]) (S' := fun D9 => []) (σ' := fun D9 => (SH L0, D9)) (fun _ _ => rfl) ?_
  obtain ⟨D10, hx, h⟩ := bnd h
  refine ev_bind hx 8 (pc' := 206) (L' := fun D10 => [some (.inr (.inr 4)), some (.inr (.inr 94))]) (S' := fun D10 => []) (σ' := fun D10 => (SH L0, D10)) (fun _ _ => rfl) ?_
  obtain ⟨D11, hx, h⟩ := bnd h
  refine ev_bind hx 8 (pc' := 221) (L' := fun D11 => [some (.inr (.inr 4)), some (.inr (.inr 94))]) (S' := fun D11 => []) (σ' := fun D11 => (SH L0, D11)) (fun _ _ => rfl) ?_
  obtain ⟨D12, hx, h⟩ := bnd h
  refine ev_bind hx 8 (pc' := 236) (L' := fun D12 => [some (.inr (.inr 4)), some (.inr (.inr 94))]) (S' := fun D12 => []) (σ' := fun D12 => (SH L0, D12)) (fun _ _ => rfl) ?_
  obtain ⟨D13, hx, h⟩ := bnd h
  refine ev_bind hx 8 (pc' := 251) (L' := fun D13 => [some (.inr (.inr 4)), some (.inr (.inr 94))]) (S' := fun D13 => []) (σ' := fun D13 => (SH L0, D13)) (fun _ _ => rfl) ?_
  cases h
  exact ev_ret 1 (fun _ _ => rfl)
set_option maxRecDepth 100000 in
set_option maxHeartbeats 4000000 in
theorem e_X7_copy_4_108 (L0 d : Nat) (hd : 1 ≤ d) {D : DT} {t0 : DT} (h : m_X7_copy 4 108 D = some t0) : Ret mtab d 73 [.inr (.inr 4), .inr (.inr 108)] (SH L0, D) (none, (SH L0, t0)) := by
  obtain ⟨d, rfl⟩ : ∃ e, d = e + 1 := ⟨d - 1, by omega⟩
  refine Ret.of (code := k_X7_copy) (ml := 2) rfl ?_
  show EvF mtab d k_X7_copy 0 [some (.inr (.inr 4)), some (.inr (.inr 108))] [] (SH L0, D) (none, (SH L0, t0))
  unfold m_X7_copy at h
  obtain ⟨D1, hx, h⟩ := bnd h
  refine ev_bind hx 36 (pc' := 71) (L' := fun D1 => [some (.inr (.inr 4)), some (.inr (.inr 108))]) (S' := fun D1 => []) (σ' := fun D1 => (SH L0, D1)) (fun _ _ => rfl) ?_
  obtain ⟨D2, hx, h⟩ := bnd h
  refine ev_bind hx 8 (pc' := 86) (L' := fun D2 => [some (.inr (.inr 4)), some (.inr (.inr 108))]) (S' := fun D2 => []) (σ' := fun D2 => (SH L0, D2)) (fun _ _ => rfl) ?_
  obtain ⟨D3, hx, h⟩ := bnd h
  refine ev_bind hx 8 (pc' := 101) (L' := fun D3 => [some (.inr (.inr 4)), some (.inr (.inr 108))]) (S' := fun D3 => []) (σ' := fun D3 => (SH L0, D3)) (fun _ _ => rfl) ?_
  obtain ⟨D4, hx, h⟩ := bnd h
  refine ev_bind hx 8 (pc' := 116) (L' := fun D4 => [some (.inr (.inr 4)), some (.inr (.inr 108))]) (S' := fun D4 => []) (σ' := fun D4 => (SH L0, D4)) (fun _ _ => rfl) ?_
  obtain ⟨D5, hx, h⟩ := bnd h
  refine ev_bind hx 8 (pc' := 131) (L' := fun D5 => [some (.inr (.inr 4)), some (.inr (.inr 108))]) (S' := fun D5 => []) (σ' := fun D5 => (SH L0, D5)) (fun _ _ => rfl) ?_
  obtain ⟨D6, hx, h⟩ := bnd h
  refine ev_bind hx 8 (pc' := 146) (L' := fun D6 => [some (.inr (.inr 4)), some (.inr (.inr 108))]) (S' := fun D6 => []) (σ' := fun D6 => (SH L0, D6)) (fun _ _ => rfl) ?_
  obtain ⟨D7, hx, h⟩ := bnd h
  refine ev_bind hx 8 (pc' := 161) (L' := fun D7 => [some (.inr (.inr 4)), some (.inr (.inr 108))]) (S' := fun D7 => []) (σ' := fun D7 => (SH L0, D7)) (fun _ _ => rfl) ?_
  obtain ⟨D8, hx, h⟩ := bnd h
  refine ev_bind hx 8 (pc' := 176) (L' := fun D8 => [some (.inr (.inr 4)), some (.inr (.inr 108))]) (S' := fun D8 => []) (σ' := fun D8 => (SH L0, D8)) (fun _ _ => rfl) ?_
  obtain ⟨D9, hx, h⟩ := bnd h
  refine ev_bind hx 8 (pc' := 191) (L' := fun D9 => [some (.inr (.inr 4)), some (.inr (.inr 108))]) (S' := fun D9 => []) (σ' := fun D9 => (SH L0, D9)) (fun _ _ => rfl) ?_
  obtain ⟨D10, hx, h⟩ := bnd h
  refine ev_bind hx 8 (pc' := 206) (L' := fun D10 => [some (.inr (.inr 4)), some (.inr (.inr 108))]) (S' := fun D10 => []) (σ' := fun D10 => (SH L0, D10)) (fun _ _ => rfl) ?_
  obtain ⟨D11, hx, h⟩ := bnd h
  refine ev_bind hx 8 (pc' := 221) (L' := fun D11 => [some (.inr (.inr 4)), some (.inr (.inr 108))]) (S' := fun D11 => []) (σ' := fun D11 => (SH L0, D11)) (fun _ _ => rfl) ?_
  obtain ⟨D12, hx, h⟩ := bnd h
  refine ev_bind hx 8 (pc' := 236) (L' := fun D12 => [some (.inr (.inr 4)), some (.inr (.inr 108))]) (S' := fun D12 => []) (σ' := fun D12 => (SH L0, D12)) (fun _ _ => rfl) ?_
  obtain ⟨D13, hx, h⟩ := bnd h
  refine ev_bind hx 8 (pc' := 251) (L' := fun D13 => [some (.inr (.inr 4)), some (.inr (.inr 108))]) (S' := fun D13 => []) (σ' := fun D13 => (SH L0, D13)) (fun _ _ => rfl) ?_
  cases h
  exact ev_ret 1 (fun _ _ => rfl)
set_option maxRecDepth 100000 in
set_option maxHeartbeats 4000000 in
theorem e_X7_copy_38_4 (L0 d : Nat) (hd : 1 ≤ d) {D : DT} {t0 : DT} (h : m_X7_copy 38 4 D = some t0) : Ret mtab d 73 [.inr (.inr 38), .inr (.inr 4)] (SH L0, D) (none, (SH L0, t0)) := by
  obtain ⟨d, rfl⟩ : ∃ e, d = e + 1 := ⟨d - 1, by omega⟩
  refine Ret.of (code := k_X7_copy) (ml := 2) rfl ?_
  show EvF mtab d k_X7_copy 0 [some (.inr (.inr 38)), some (.inr (.inr 4))] [] (SH L0, D) (none, (SH L0, t0))
  unfold m_X7_copy at h
  obtain ⟨D1, hx, h⟩ := bnd h
  refine ev_bind hx 36 (pc' := 71) (L' := fun D1 => [some (.inr (.inr 38)), some (.inr (.inr 4))]) (S' := fun D1 => []) (σ' := fun D1 => (SH L0, D1)) (fun _ _ => rfl) ?_
  obtain ⟨D2, hx, h⟩ := bnd h
  refine ev_bind hx 8 (pc' := 86) (L' := fun D2 => [some (.inr (.inr 38)), some (.inr (.inr 4))]) (S' := fun D2 => []) (σ' := fun D2 => (SH L0, D2)) (fun _ _ => rfl) ?_
  obtain ⟨D3, hx, h⟩ := bnd h
  refine ev_bind hx 8 (pc' := 101) (L' := fun D3 => [some (.inr (.inr 38)), some (.inr (.inr 4))]) (S' := fun D3 => []) (σ' := fun D3 => (SH L0, D3)) (fun _ _ => rfl) ?_
  obtain ⟨D4, hx, h⟩ := bnd h
  refine ev_bind hx 8 (pc' := 116) (L' := fun D4 => [some (.inr (.inr 38)), some (.inr (.inr 4))]) (S' := fun D4 => []) (σ' := fun D4 => (SH L0, D4)) (fun _ _ => rfl) ?_
  obtain ⟨D5, hx, h⟩ := bnd h
  refine ev_bind hx 8 (pc' := 131) (L' := fun D5 => [some (.inr (.inr 38)), some (.inr (.inr 4))]) (S' := fun D5 => []) (σ' := fun D5 => (SH L0, D5)) (fun _ _ => rfl) ?_
  obtain ⟨D6, hx, h⟩ := bnd h
  refine ev_bind hx 8 (pc' := 146) (L' := fun D6 => [some (.inr (.inr 38)), some (.inr (.inr 4))]) (S' := fun D6 => []) (σ' := fun D6 => (SH L0, D6)) (fun _ _ => rfl) ?_
  obtain ⟨D7, hx, h⟩ := bnd h
  refine ev_bind hx 8 (pc' := 161) (L' := fun D7 => [some (.inr (.inr 38)), some (.inr (.inr 4))]) (S' := fun D7 => []) (σ' := fun D7 => (SH L0, D7)) (fun _ _ => rfl) ?_
  obtain ⟨D8, hx, h⟩ := bnd h
  refine ev_bind hx 8 (pc' := 176) (L' := fun D8 => [some (.inr (.inr 38)), some (.inr (.inr 4))]) (S' := fun D8 => []) (σ' := fun D8 => (SH L0, D8)) (fun _ _ => rfl) ?_
  obtain ⟨D9, hx, h⟩ := bnd h
  refine ev_bind hx 8 (pc' := 191) (L' := fun D9 => [some (.inr (.inr 38)), some (.inr (.inr 4))]) (S' := fun D9 => []) (σ' := fun D9 => (SH L0, D9)) (fun _ _ => rfl) ?_
  obtain ⟨D10, hx, h⟩ := bnd h
  refine ev_bind hx 8 (pc' := 206) (L' := fun D10 => [some (.inr (.inr 38)), some (.inr (.inr 4))]) (S' := fun D10 => []) (σ' := fun D10 => (SH L0, D10)) (fun _ _ => rfl) ?_
  obtain ⟨D11, hx, h⟩ := bnd h
  refine ev_bind hx 8 (pc' := 221) (L' := fun D11 => [some (.inr (.inr 38)), some (.inr (.inr 4))]) (S' := fun D11 => []) (σ' := fun D11 => (SH L0, D11)) (fun _ _ => rfl) ?_
  obtain ⟨D12, hx, h⟩ := bnd h
  refine ev_bind hx 8 (pc' := 236) (L' := fun D12 => [some (.inr (.inr 38)), some (.inr (.inr 4))]) (S' := fun D12 => []) (σ' := fun D12 => (SH L0, D12)) (fun _ _ => rfl) ?_
  obtain ⟨D13, hx, h⟩ := bnd h
  refine ev_bind hx 8 (pc' := 251) (L' := fun D13 => [some (.inr (.inr 38)), some (.inr (.inr 4))]) (S' := fun D13 => []) (σ' := fun D13 => (SH L0, D13)) (fun _ _ => rfl) ?_
  cases h
  exact ev_ret 1 (fun _ _ => rfl)
set_option maxRecDepth 100000 in
set_option maxHeartbeats 4000000 in
theorem e_X7_copy_52_4 (L0 d : Nat) (hd : 1 ≤ d) {D : DT} {t0 : DT} (h : m_X7_copy 52 4 D = some t0) : Ret mtab d 73 [.inr (.inr 52), .inr (.inr 4)] (SH L0, D) (none, (SH L0, t0)) := by
  obtain ⟨d, rfl⟩ : ∃ e, d = e + 1 := ⟨d - 1, by omega⟩
  refine Ret.of (code := k_X7_copy) (ml := 2) rfl ?_
  show EvF mtab d k_X7_copy 0 [some (.inr (.inr 52)), some (.inr (.inr 4))] [] (SH L0, D) (none, (SH L0, t0))
  unfold m_X7_copy at h
  obtain ⟨D1, hx, h⟩ := bnd h
  refine ev_bind hx 36 (pc' := 71) (L' := fun D1 => [some (.inr (.inr 52)), some (.inr (.inr 4))]) (S' := fun D1 => []) (σ' := fun D1 => (SH L0, D1)) (fun _ _ => rfl) ?_
  obtain ⟨D2, hx, h⟩ := bnd h
  refine ev_bind hx 8 (pc' := 86) (L' := fun D2 => [some (.inr (.inr 52)), some (.inr (.inr 4))]) (S' := fun D2 => []) (σ' := fun D2 => (SH L0, D2)) (fun _ _ => rfl) ?_
  obtain ⟨D3, hx, h⟩ := bnd h
  refine ev_bind hx 8 (pc' := 101) (L' := fun D3 => [some (.inr (.inr 52)), some (.inr (.inr 4))]) (S' := fun D3 => []) (σ' := fun D3 => (SH L0, D3)) (fun _ _ => rfl) ?_
  obtain ⟨D4, hx, h⟩ := bnd h
  refine ev_bind hx 8 (pc' := 116) (L' := fun D4 => [some (.inr (.inr 52)), some (.inr (.inr 4))]) (S' := fun D4 => []) (σ' := fun D4 => (SH L0, D4)) (fun _ _ => rfl) ?_
  obtain ⟨D5, hx, h⟩ := bnd h
  refine ev_bind hx 8 (pc' := 131) (L' := fun D5 => [some (.inr (.inr 52)), some (.inr (.inr 4))]) (S' := fun D5 => []) (σ' := fun D5 => (SH L0, D5)) (fun _ _ => rfl) ?_
  obtain ⟨D6, hx, h⟩ := bnd h
  refine ev_bind hx 8 (pc' := 146) (L' := fun D6 => [some (.inr (.inr 52)), some (.inr (.inr 4))]) (S' := fun D6 => []) (σ' := fun D6 => (SH L0, D6)) (fun _ _ => rfl) ?_
  obtain ⟨D7, hx, h⟩ := bnd h
  refine ev_bind hx 8 (pc' := 161) (L' := fun D7 => [some (.inr (.inr 52)), some (.inr (.inr 4))]) (S' := fun D7 => []) (σ' := fun D7 => (SH L0, D7)) (fun _ _ => rfl) ?_
  obtain ⟨D8, hx, h⟩ := bnd h
  refine ev_bind hx 8 (pc' := 176) (L' := fun D8 => [some (.inr (.inr 52)), some (.inr (.inr 4))]) (S' := fun D8 => []) (σ' := fun D8 => (SH L0, D8)) (fun _ _ => rfl) ?_
  obtain ⟨D9, hx, h⟩ := bnd h
  refine ev_bind hx 8 (pc' := 191) (L' := fun D9 => [some (.inr (.inr 52)), some (.inr (.inr 4))]) (S' := fun D9 => []) (σ' := fun D9 => (SH L0, D9)) (fun _ _ => rfl) ?_
  obtain ⟨D10, hx, h⟩ := bnd h
  refine ev_bind hx 8 (pc' := 206) (L' := fun D10 => [some (.inr (.inr 52)), some (.inr (.inr 4))]) (S' := fun D10 => []) (σ' := fun D10 => (SH L0, D10)) (fun _ _ => rfl) ?_
  obtain ⟨D11, hx, h⟩ := bnd h
  refine ev_bind hx 8 (pc' := 221) (L' := fun D11 => [some (.inr (.inr 52)), some (.inr (.inr 4))]) (S' := fun D11 => []) (σ' := fun D11 => (SH L0, D11)) (fun _ _ => rfl) ?_
  obtain ⟨D12, hx, h⟩ := bnd h
  refine ev_bind hx 8 (pc' := 236) (L' := fun D12 => [some (.inr (.inr 52)), some (.inr (.inr 4))]) (S' := fun D12 => []) (σ' := fun D12 => (SH L0, D12)) (fun _ _ => rfl) ?_
  obtain ⟨D13, hx, h⟩ := bnd h
  refine ev_bind hx 8 (pc' := 251) (L' := fun D13 => [some (.inr (.inr 52)), some (.inr (.inr 4))]) (S' := fun D13 => []) (σ' := fun D13 => (SH L0, D13)) (fun _ _ => rfl) ?_
  cases h
  exact ev_ret 1 (fun _ _ => rfl)
set_option maxRecDepth 100000 in
set_option maxHeartbeats 4000000 in
theorem e_X7_copy_66_4 (L0 d : Nat) (hd : 1 ≤ d) {D : DT} {t0 : DT} (h : m_X7_copy 66 4 D = some t0) : Ret mtab d 73 [.inr (.inr 66), .inr (.inr 4)] (SH L0, D) (none, (SH L0, t0)) := by
  obtain ⟨d, rfl⟩ : ∃ e, d = e + 1 := ⟨d - 1, by omega⟩
  refine Ret.of (code := k_X7_copy) (ml := 2) rfl ?_
  show EvF mtab d k_X7_copy 0 [some (.inr (.inr 66)), some (.inr (.inr 4))] [] (SH L0, D) (none, (SH L0, t0))
  unfold m_X7_copy at h
  obtain ⟨D1, hx, h⟩ := bnd h
  refine ev_bind hx 36 (pc' := 71) (L' := fun D1 => [some (.inr (.inr 66)), some (.inr (.inr 4))]) (S' := fun D1 => []) (σ' := fun D1 => (SH L0, D1)) (fun _ _ => rfl) ?_
  obtain ⟨D2, hx, h⟩ := bnd h
  refine ev_bind hx 8 (pc' := 86) (L' := fun D2 => [some (.inr (.inr 66)), some (.inr (.inr 4))]) (S' := fun D2 => []) (σ' := fun D2 => (SH L0, D2)) (fun _ _ => rfl) ?_
  obtain ⟨D3, hx, h⟩ := bnd h
  refine ev_bind hx 8 (pc' := 101) (L' := fun D3 => [some (.inr (.inr 66)), some (.inr (.inr 4))]) (S' := fun D3 => []) (σ' := fun D3 => (SH L0, D3)) (fun _ _ => rfl) ?_
  obtain ⟨D4, hx, h⟩ := bnd h
  refine ev_bind hx 8 (pc' := 116) (L' := fun D4 => [some (.inr (.inr 66)), some (.inr (.inr 4))]) (S' := fun D4 => []) (σ' := fun D4 => (SH L0, D4)) (fun _ _ => rfl) ?_
  obtain ⟨D5, hx, h⟩ := bnd h
  refine ev_bind hx 8 (pc' := 131) (L' := fun D5 => [some (.inr (.inr 66)), some (.inr (.inr 4))]) (S' := fun D5 => []) (σ' := fun D5 => (SH L0, D5)) (fun _ _ => rfl) ?_
  obtain ⟨D6, hx, h⟩ := bnd h
  refine ev_bind hx 8 (pc' := 146) (L' := fun D6 => [some (.inr (.inr 66)), some (.inr (.inr 4))]) (S' := fun D6 => []) (σ' := fun D6 => (SH L0, D6)) (fun _ _ => rfl) ?_
  obtain ⟨D7, hx, h⟩ := bnd h
  refine ev_bind hx 8 (pc' := 161) (L' := fun D7 => [some (.inr (.inr 66)), some (.inr (.inr 4))]) (S' := fun D7 => []) (σ' := fun D7 => (SH L0, D7)) (fun _ _ => rfl) ?_
  obtain ⟨D8, hx, h⟩ := bnd h
  refine ev_bind hx 8 (pc' := 176) (L' := fun D8 => [some (.inr (.inr 66)), some (.inr (.inr 4))]) (S' := fun D8 => []) (σ' := fun D8 => (SH L0, D8)) (fun _ _ => rfl) ?_
  obtain ⟨D9, hx, h⟩ := bnd h
  refine ev_bind hx 8 (pc' := 191) (L' := fun D9 => [some (.inr (.inr 66)), some (.inr (.inr 4))]) (S' := fun D9 => []) (σ' := fun D9 => (SH L0, D9)) (fun _ _ => rfl) ?_
  obtain ⟨D10, hx, h⟩ := bnd h
  refine ev_bind hx 8 (pc' := 206) (L' := fun D10 => [some (.inr (.inr 66)), some (.inr (.inr 4))]) (S' := fun D10 => []) (σ' := fun D10 => (SH L0, D10)) (fun _ _ => rfl) ?_
  obtain ⟨D11, hx, h⟩ := bnd h
  refine ev_bind hx 8 (pc' := 221) (L' := fun D11 => [some (.inr (.inr 66)), some (.inr (.inr 4))]) (S' := fun D11 => []) (σ' := fun D11 => (SH L0, D11)) (fun _ _ => rfl) ?_
  obtain ⟨D12, hx, h⟩ := bnd h
  refine ev_bind hx 8 (pc' := 236) (L' := fun D12 => [some (.inr (.inr 66)), some (.inr (.inr 4))]) (S' := fun D12 => []) (σ' := fun D12 => (SH L0, D12)) (fun _ _ => rfl) ?_
  obtain ⟨D13, hx, h⟩ := bnd h
  refine ev_bind hx 8 (pc' := 251) (L' := fun D13 => [some (.inr (.inr 66)), some (.inr (.inr 4))]) (S' := fun D13 => []) (σ' := fun D13 => (SH L0, D13)) (fun _ _ => rfl) ?_
  cases h
  exact ev_ret 1 (fun _ _ => rfl)
set_option maxRecDepth 100000 in
set_option maxHeartbeats 4000000 in
theorem e_X7_copy_80_4 (L0 d : Nat) (hd : 1 ≤ d) {D : DT} {t0 : DT} (h : m_X7_copy 80 4 D = some t0) : Ret mtab d 73 [.inr (.inr 80), .inr (.inr 4)] (SH L0, D) (none, (SH L0, t0)) := by
  obtain ⟨d, rfl⟩ : ∃ e, d = e + 1 := ⟨d - 1, by omega⟩
  refine Ret.of (code := k_X7_copy) (ml := 2) rfl ?_
  show EvF mtab d k_X7_copy 0 [some (.inr (.inr 80)), some (.inr (.inr 4))] [] (SH L0, D) (none, (SH L0, t0))
  unfold m_X7_copy at h
  obtain ⟨D1, hx, h⟩ := bnd h
  refine ev_bind hx 36 (pc' := 71) (L' := fun D1 => [some (.inr (.inr 80)), some (.inr (.inr 4))]) (S' := fun D1 => []) (σ' := fun D1 => (SH L0, D1)) (fun _ _ => rfl) ?_
  obtain ⟨D2, hx, h⟩ := bnd h
  refine ev_bind hx 8 (pc' := 86) (L' := fun D2 => [some (.inr (.inr 80)), some (.inr (.inr 4))]) (S' := fun D2 => []) (σ' := fun D2 => (SH L0, D2)) (fun _ _ => rfl) ?_
  obtain ⟨D3, hx, h⟩ := bnd h
  refine ev_bind hx 8 (pc' := 101) (L' := fun D3 => [some (.inr (.inr 80)), some (.inr (.inr 4))]) (S' := fun D3 => []) (σ' := fun D3 => (SH L0, D3)) (fun _ _ => rfl) ?_
  obtain ⟨D4, hx, h⟩ := bnd h
  refine ev_bind hx 8 (pc' := 116) (L' := fun D4 => [some (.inr (.inr 80)), some (.inr (.inr 4))]) (S' := fun D4 => []) (σ' := fun D4 => (SH L0, D4)) (fun _ _ => rfl) ?_
  obtain ⟨D5, hx, h⟩ := bnd h
  refine ev_bind hx 8 (pc' := 131) (L' := fun D5 => [some (.inr (.inr 80)), some (.inr (.inr 4))]) (S' := fun D5 => []) (σ' := fun D5 => (SH L0, D5)) (fun _ _ => rfl) ?_
  obtain ⟨D6, hx, h⟩ := bnd h
  refine ev_bind hx 8 (pc' := 146) (L' := fun D6 => [some (.inr (.inr 80)), some (.inr (.inr 4))]) (S' := fun D6 => []) (σ' := fun D6 => (SH L0, D6)) (fun _ _ => rfl) ?_
  obtain ⟨D7, hx, h⟩ := bnd h
  refine ev_bind hx 8 (pc' := 161) (L' := fun D7 => [some (.inr (.inr 80)), some (.inr (.inr 4))]) (S' := fun D7 => []) (σ' := fun D7 => (SH L0, D7)) (fun _ _ => rfl) ?_
  obtain ⟨D8, hx, h⟩ := bnd h
  refine ev_bind hx 8 (pc' := 176) (L' := fun D8 => [some (.inr (.inr 80)), some (.inr (.inr 4))]) (S' := fun D8 => []) (σ' := fun D8 => (SH L0, D8)) (fun _ _ => rfl) ?_
  obtain ⟨D9, hx, h⟩ := bnd h
  refine ev_bind hx 8 (pc' := 191) (L' := fun D9 => [some (.inr (.inr 80)), some (.inr (.inr 4))]) (S' := fun D9 => []) (σ' := fun D9 => (SH L0, D9)) (fun _ _ => rfl) ?_
  obtain ⟨D10, hx, h⟩ := bnd h
  refine ev_bind hx 8 (pc' := 206) (L' := fun D10 => [some (.inr (.inr 80)), some (.inr (.inr 4))]) (S' := fun D10 => []) (σ' := fun D10 => (SH L0, D10)) (fun _ _ => rfl) ?_
  obtain ⟨D11, hx, h⟩ := bnd h
  refine ev_bind hx 8 (pc' := 221) (L' := fun D11 => [some (.inr (.inr 80)), some (.inr (.inr 4))]) (S' := fun D11 => []) (σ' := fun D11 => (SH L0, D11)) (fun _ _ => rfl) ?_
  obtain ⟨D12, hx, h⟩ := bnd h
  refine ev_bind hx 8 (pc' := 236) (L' := fun D12 => [some (.inr (.inr 80)), some (.inr (.inr 4))]) (S' := fun D12 => []) (σ' := fun D12 => (SH L0, D12)) (fun _ _ => rfl) ?_
  obtain ⟨D13, hx, h⟩ := bnd h
  refine ev_bind hx 8 (pc' := 251) (L' := fun D13 => [some (.inr (.inr 80)), some (.inr (.inr 4))]) (S' := fun D13 => []) (σ' := fun D13 => (SH L0, D13)) (fun _ _ => rfl) ?_
  cases h
  exact ev_ret 1 (fun _ _ => rfl)
set_option maxRecDepth 100000 in
set_option maxHeartbeats 4000000 in
theorem e_X7_copy_94_4 (L0 d : Nat) (hd : 1 ≤ d) {D : DT} {t0 : DT} (h : m_X7_copy 94 4 D = some t0) : Ret mtab d 73 [.inr (.inr 94), .inr (.inr 4)] (SH L0, D) (none, (SH L0, t0)) := by
  obtain ⟨d, rfl⟩ : ∃ e, d = e + 1 := ⟨d - 1, by omega⟩
  refine Ret.of (code := k_X7_copy) (ml := 2) rfl ?_
  show EvF mtab d k_X7_copy 0 [some (.inr (.inr 94)), some (.inr (.inr 4))] [] (SH L0, D) (none, (SH L0, t0))
  unfold m_X7_copy at h
  obtain ⟨D1, hx, h⟩ := bnd h
  refine ev_bind hx 36 (pc' := 71) (L' := fun D1 => [some (.inr (.inr 94)), some (.inr (.inr 4))]) (S' := fun D1 => []) (σ' := fun D1 => (SH L0, D1)) (fun _ _ => rfl) ?_
  obtain ⟨D2, hx, h⟩ := bnd h
  refine ev_bind hx 8 (pc' := 86) (L' := fun D2 => [some (.inr (.inr 94)), some (.inr (.inr 4))]) (S' := fun D2 => []) (σ' := fun D2 => (SH L0, D2)) (fun _ _ => rfl) ?_
  obtain ⟨D3, hx, h⟩ := bnd h
  refine ev_bind hx 8 (pc' := 101) (L' := fun D3 => [some (.inr (.inr 94)), some (.inr (.inr 4))]) (S' := fun D3 => []) (σ' := fun D3 => (SH L0, D3)) (fun _ _ => rfl) ?_
  obtain ⟨D4, hx, h⟩ := bnd h
  refine ev_bind hx 8 (pc' := 116) (L' := fun D4 => [some (.inr (.inr 94)), some (.inr (.inr 4))]) (S' := fun D4 => []) (σ' := fun D4 => (SH L0, D4)) (fun _ _ => rfl) ?_
  obtain ⟨D5, hx, h⟩ := bnd h
  refine ev_bind hx 8 (pc' := 131) (L' := fun D5 => [some (.inr (.inr 94)), some (.inr (.inr 4))]) (S' := fun D5 => []) (σ' := fun D5 => (SH L0, D5)) (fun _ _ => rfl) ?_
  obtain ⟨D6, hx, h⟩ := bnd h
  refine ev_bind hx 8 (pc' := 146) (L' := fun D6 => [some (.inr (.inr 94)), some (.inr (.inr 4))]) (S' := fun D6 => []) (σ' := fun D6 => (SH L0, D6)) (fun _ _ => rfl) ?_
  obtain ⟨D7, hx, h⟩ := bnd h
  refine ev_bind hx 8 (pc' := 161) (L' := fun D7 => [some (.inr (.inr 94)), some (.inr (.inr 4))]) (S' := fun D7 => []) (σ' := fun D7 => (SH L0, D7)) (fun _ _ => rfl) ?_
  obtain ⟨D8, hx, h⟩ := bnd h
  refine ev_bind hx 8 (pc' := 176) (L' := fun D8 => [some (.inr (.inr 94)), some (.inr (.inr 4))]) (S' := fun D8 => []) (σ' := fun D8 => (SH L0, D8)) (fun _ _ => rfl) ?_
  obtain ⟨D9, hx, h⟩ := bnd h
  refine ev_bind hx 8 (pc' := 191) (L' := fun D9 => [some (.inr (.inr 94)), some (.inr (.inr 4))]) (S' := fun D9 => []) (σ' := fun D9 => (SH L0, D9)) (fun _ _ => rfl) ?_
  obtain ⟨D10, hx, h⟩ := bnd h
  refine ev_bind hx 8 (pc' := 206) (L' := fun D10 => [some (.inr (.inr 94)), some (.inr (.inr 4))]) (S' := fun D10 => []) (σ' := fun D10 => (SH L0, D10)) (fun _ _ => rfl) ?_
  obtain ⟨D11, hx, h⟩ := bnd h
  refine ev_bind hx 8 (pc' := 221) (L' := fun D11 => [some (.inr (.inr 94)), some (.inr (.inr 4))]) (S' := fun D11 => []) (σ' := fun D11 => (SH L0, D11)) (fun _ _ => rfl) ?_
  obtain ⟨D12, hx, h⟩ := bnd h
  refine ev_bind hx 8 (pc' := 236) (L' := fun D12 => [some (.inr (.inr 94)), some (.inr (.inr 4))]) (S' := fun D12 => []) (σ' := fun D12 => (SH L0, D12)) (fun _ _ => rfl) ?_
  obtain ⟨D13, hx, h⟩ := bnd h
  refine ev_bind hx 8 (pc' := 251) (L' := fun D13 => [some (.inr (.inr 94)), some (.inr (.inr 4))]) (S' := fun D13 => []) (σ' := fun D13 => (SH L0, D13)) (fun _ _ => rfl) ?_
  cases h
  exact ev_ret 1 (fun _ _ => rfl)
set_option maxRecDepth 100000 in
set_option maxHeartbeats 4000000 in
theorem e_X7_copy_108_4 (L0 d : Nat) (hd : 1 ≤ d) {D : DT} {t0 : DT} (h : m_X7_copy 108 4 D = some t0) : Ret mtab d 73 [.inr (.inr 108), .inr (.inr 4)] (SH L0, D) (none, (SH L0, t0)) := by
  obtain ⟨d, rfl⟩ : ∃ e, d = e + 1 := ⟨d - 1, by omega⟩
  refine Ret.of (code := k_X7_copy) (ml := 2) rfl ?_
  show EvF mtab d k_X7_copy 0 [some (.inr (.inr 108)), some (.inr (.inr 4))] [] (SH L0, D) (none, (SH L0, t0))
  unfold m_X7_copy at h
  obtain ⟨D1, hx, h⟩ := bnd h
  refine ev_bind hx 36 (pc' := 71) (L' := fun D1 => [some (.inr (.inr 108)), some (.inr (.inr 4))]) (S' := fun D1 => []) (σ' := fun D1 => (SH L0, D1)) (fun _ _ => rfl) ?_
  obtain ⟨D2, hx, h⟩ := bnd h
  refine ev_bind hx 8 (pc' := 86) (L' := fun D2 => [some (.inr (.inr 108)), some (.inr (.inr 4))]) (S' := fun D2 => []) (σ' := fun D2 => (SH L0, D2)) (fun _ _ => rfl) ?_
  obtain ⟨D3, hx, h⟩ := bnd h
  refine ev_bind hx 8 (pc' := 101) (L' := fun D3 => [some (.inr (.inr 108)), some (.inr (.inr 4))]) (S' := fun D3 => []) (σ' := fun D3 => (SH L0, D3)) (fun _ _ => rfl) ?_
  obtain ⟨D4, hx, h⟩ := bnd h
  refine ev_bind hx 8 (pc' := 116) (L' := fun D4 => [some (.inr (.inr 108)), some (.inr (.inr 4))]) (S' := fun D4 => []) (σ' := fun D4 => (SH L0, D4)) (fun _ _ => rfl) ?_
  obtain ⟨D5, hx, h⟩ := bnd h
  refine ev_bind hx 8 (pc' := 131) (L' := fun D5 => [some (.inr (.inr 108)), some (.inr (.inr 4))]) (S' := fun D5 => []) (σ' := fun D5 => (SH L0, D5)) (fun _ _ => rfl) ?_
  obtain ⟨D6, hx, h⟩ := bnd h
  refine ev_bind hx 8 (pc' := 146) (L' := fun D6 => [some (.inr (.inr 108)), some (.inr (.inr 4))]) (S' := fun D6 => []) (σ' := fun D6 => (SH L0, D6)) (fun _ _ => rfl) ?_
  obtain ⟨D7, hx, h⟩ := bnd h
  refine ev_bind hx 8 (pc' := 161) (L' := fun D7 => [some (.inr (.inr 108)), some (.inr (.inr 4))]) (S' := fun D7 => []) (σ' := fun D7 => (SH L0, D7)) (fun _ _ => rfl) ?_
  obtain ⟨D8, hx, h⟩ := bnd h
  refine ev_bind hx 8 (pc' := 176) (L' := fun D8 => [some (.inr (.inr 108)), some (.inr (.inr 4))]) (S' := fun D8 => []) (σ' := fun D8 => (SH L0, D8)) (fun _ _ => rfl) ?_
  obtain ⟨D9, hx, h⟩ := bnd h
  refine ev_bind hx 8 (pc' := 191) (L' := fun D9 => [some (.inr (.inr 108)), some (.inr (.inr 4))]) (S' := fun D9 => []) (σ' := fun D9 => (SH L0, D9)) (fun _ _ => rfl) ?_
  obtain ⟨D10, hx, h⟩ := bnd h
  refine ev_bind hx 8 (pc' := 206) (L' := fun D10 => [some (.inr (.inr 108)), some (.inr (.inr 4))]) (S' := fun D10 => []) (σ' := fun D10 => (SH L0, D10)) (fun _ _ => rfl) ?_
  obtain ⟨D11, hx, h⟩ := bnd h
  refine ev_bind hx 8 (pc' := 221) (L' := fun D11 => [some (.inr (.inr 108)), some (.inr (.inr 4))]) (S' := fun D11 => []) (σ' := fun D11 => (SH L0, D11)) (fun _ _ => rfl) ?_
  obtain ⟨D12, hx, h⟩ := bnd h
  refine ev_bind hx 8 (pc' := 236) (L' := fun D12 => [some (.inr (.inr 108)), some (.inr (.inr 4))]) (S' := fun D12 => []) (σ' := fun D12 => (SH L0, D12)) (fun _ _ => rfl) ?_
  obtain ⟨D13, hx, h⟩ := bnd h
  refine ev_bind hx 8 (pc' := 251) (L' := fun D13 => [some (.inr (.inr 108)), some (.inr (.inr 4))]) (S' := fun D13 => []) (σ' := fun D13 => (SH L0, D13)) (fun _ _ => rfl) ?_
  cases h
  exact ev_ret 1 (fun _ _ => rfl)
set_option maxRecDepth 100000 in
set_option maxHeartbeats 4000000 in
theorem e_X3_keep (L0 d : Nat) (hd : 2 ≤ d) {D : DT} {t0 : DT} (h : m_X3_keep  D = some t0) : Ret mtab d 41 [.inr (.inr 36), .inr (.inr 4)] (SH L0, D) (none, (SH L0, t0)) := by
  obtain ⟨d, rfl⟩ : ∃ e, d = e + 1 := ⟨d - 1, by omega⟩
  refine Ret.of (code := k_X3_keep) (ml := 2) rfl ?_
  show EvF mtab d k_X3_keep 0 [some (.inr (.inr 36)), some (.inr (.inr 4))] [] (SH L0, D) (none, (SH L0, t0))
  unfold m_X3_keep at h
  obtain ⟨x1, hx, h⟩ := bnd h
  refine ev_bind hx 7 (pc' := 10) (L' := fun x1 => [some (.inr (.inr 36)), some (.inr (.inr 4))]) (S' := fun x1 => [.inl x1, .inr (.inr 36)]) (σ' := fun x1 => (SH L0, D)) (fun _ _ => rfl) ?_
  rcases ite_or h with ⟨hc, h⟩ | ⟨_, h⟩
  · have hx : aref [39, 53, 67, 81, 95, 109] 6 ((dput D 36 1 x1) 36 1) = some 38 := by rw [hc]; rfl
    refine ev_bind hx 6 (pc' := 22) (L' := fun q => [some (.inr (.inr 36)), some (.inr (.inr 4))]) (S' := fun q => [.inr (.inr q)]) (σ' := fun q => (SH L0, dput D 36 1 x1)) (fun _ _ => rfl) ?_
    obtain ⟨D2, hx, h⟩ := bnd h
    refine ev_call (e_X7_copy_38_4 L0 d (by omega) hx) 2 (pc' := 26) (L' := [some (.inr (.inr 36)), some (.inr (.inr 4))]) (S' := []) (fun _ _ => rfl) ?_
    cases h
    exact ev_ret 9 (fun _ _ => rfl)
  rcases ite_or h with ⟨hc, h⟩ | ⟨_, h⟩
  · have hx : aref [39, 53, 67, 81, 95, 109] 6 ((dput D 36 1 x1) 36 1) = some 52 := by rw [hc]; rfl
    refine ev_bind hx 6 (pc' := 22) (L' := fun q => [some (.inr (.inr 36)), some (.inr (.inr 4))]) (S' := fun q => [.inr (.inr q)]) (σ' := fun q => (SH L0, dput D 36 1 x1)) (fun _ _ => rfl) ?_
    obtain ⟨D3, hx, h⟩ := bnd h
    refine ev_call (e_X7_copy_52_4 L0 d (by omega) hx) 2 (pc' := 26) (L' := [some (.inr (.inr 36)), some (.inr (.inr 4))]) (S' := []) (fun _ _ => rfl) ?_
    cases h
    exact ev_ret 9 (fun _ _ => rfl)
  rcases ite_or h with ⟨hc, h⟩ | ⟨_, h⟩
  · have hx : aref [39, 53, 67, 81, 95, 109] 6 ((dput D 36 1 x1) 36 1) = some 66 := by rw [hc]; rfl
    refine ev_bind hx 6 (pc' := 22) (L' := fun q => [some (.inr (.inr 36)), some (.inr (.inr 4))]) (S' := fun q => [.inr (.inr q)]) (σ' := fun q => (SH L0, dput D 36 1 x1)) (fun _ _ => rfl) ?_
    obtain ⟨D4, hx, h⟩ := bnd h
    refine ev_call (e_X7_copy_66_4 L0 d (by omega) hx) 2 (pc' := 26) (L' := [some (.inr (.inr 36)), some (.inr (.inr 4))]) (S' := []) (fun _ _ => rfl) ?_
    cases h
    exact ev_ret 9 (fun _ _ => rfl)
  rcases ite_or h with ⟨hc, h⟩ | ⟨_, h⟩
  · have hx : aref [39, 53, 67, 81, 95, 109] 6 ((dput D 36 1 x1) 36 1) = some 80 := by rw [hc]; rfl
    refine ev_bind hx 6 (pc' := 22) (L' := fun q => [some (.inr (.inr 36)), some (.inr (.inr 4))]) (S' := fun q => [.inr (.inr q)]) (σ' := fun q => (SH L0, dput D 36 1 x1)) (fun _ _ => rfl) ?_
    obtain ⟨D5, hx, h⟩ := bnd h
    refine ev_call (e_X7_copy_80_4 L0 d (by omega) hx) 2 (pc' := 26) (L' := [some (.inr (.inr 36)), some (.inr (.inr 4))]) (S' := []) (fun _ _ => rfl) ?_
    cases h
    exact ev_ret 9 (fun _ _ => rfl)
  rcases ite_or h with ⟨hc, h⟩ | ⟨_, h⟩
  · have hx : aref [39, 53, 67, 81, 95, 109] 6 ((dput D 36 1 x1) 36 1) = some 94 := by rw [hc]; rfl
    refine ev_bind hx 6 (pc' := 22) (L' := fun q => [some (.inr (.inr 36)), some (.inr (.inr 4))]) (S' := fun q => [.inr (.inr q)]) (σ' := fun q => (SH L0, dput D 36 1 x1)) (fun _ _ => rfl) ?_
    obtain ⟨D6, hx, h⟩ := bnd h
    refine ev_call (e_X7_copy_94_4 L0 d (by omega) hx) 2 (pc' := 26) (L' := [some (.inr (.inr 36)), some (.inr (.inr 4))]) (S' := []) (fun _ _ => rfl) ?_
    cases h
    exact ev_ret 9 (fun _ _ => rfl)
  rcases ite_or h with ⟨hc, h⟩ | ⟨_, h⟩
  · have hx : aref [39, 53, 67, 81, 95, 109] 6 ((dput D 36 1 x1) 36 1) = some 108 := by rw [hc]; rfl
    refine ev_bind hx 6 (pc' := 22) (L' := fun q => [some (.inr (.inr 36)), some (.inr (.inr 4))]) (S' := fun q => [.inr (.inr q)]) (σ' := fun q => (SH L0, dput D 36 1 x1)) (fun _ _ => rfl) ?_
    obtain ⟨D7, hx, h⟩ := bnd h
    refine ev_call (e_X7_copy_108_4 L0 d (by omega) hx) 2 (pc' := 26) (L' := [some (.inr (.inr 36)), some (.inr (.inr 4))]) (S' := []) (fun _ _ => rfl) ?_
    cases h
    exact ev_ret 9 (fun _ _ => rfl)
  cases h
set_option maxRecDepth 100000 in
set_option maxHeartbeats 4000000 in
theorem e_X3_bringBack (L0 d : Nat) (hd : 2 ≤ d) {D : DT} {t0 : DT} (h : m_X3_bringBack  D = some t0) : Ret mtab d 42 [.inr (.inr 36), .inr (.inr 4)] (SH L0, D) (none, (SH L0, t0)) := by
  obtain ⟨d, rfl⟩ : ∃ e, d = e + 1 := ⟨d - 1, by omega⟩
  refine Ret.of (code := k_X3_bringBack) (ml := 2) rfl ?_
  show EvF mtab d k_X3_bringBack 0 [some (.inr (.inr 36)), some (.inr (.inr 4))] [] (SH L0, D) (none, (SH L0, t0))
  unfold m_X3_bringBack at h
  rcases ite_or h with ⟨hc, h⟩ | ⟨_, h⟩
  · have hx : aref [39, 53, 67, 81, 95, 109] 6 (D 36 1) = some 38 := by rw [hc]; rfl
    refine ev_bind hx 6 (pc' := 10) (L' := fun q => [some (.inr (.inr 36)), some (.inr (.inr 4))]) (S' := fun q => [.inr (.inr q), .inr (.inr 4)]) (σ' := fun q => (SH L0, D)) (fun _ _ => rfl) ?_
    obtain ⟨D1, hx, h⟩ := bnd h
    refine ev_call (e_X7_copy_4_38 L0 d (by omega) hx) 1 (pc' := 13) (L' := [some (.inr (.inr 36)), some (.inr (.inr 4))]) (S' := []) (fun _ _ => rfl) ?_
    obtain ⟨x2, hx, h⟩ := bnd h
    refine ev_bind hx 9 (pc' := 26) (L' := fun x2 => [some (.inr (.inr 36)), some (.inr (.inr 4))]) (S' := fun x2 => [.inl x2, .inr (.inr 36)]) (σ' := fun x2 => (SH L0, D1)) (fun _ _ => rfl) ?_
    cases h
    exact ev_ret 8 (fun _ _ => rfl)
  rcases ite_or h with ⟨hc, h⟩ | ⟨_, h⟩
  · have hx : aref [39, 53, 67, 81, 95, 109] 6 (D 36 1) = some 52 := by rw [hc]; rfl
    refine ev_bind hx 6 (pc' := 10) (L' := fun q => [some (.inr (.inr 36)), some (.inr (.inr 4))]) (S' := fun q => [.inr (.inr q), .inr (.inr 4)]) (σ' := fun q => (SH L0, D)) (fun _ _ => rfl) ?_
    obtain ⟨D3, hx, h⟩ := bnd h
    refine ev_call (e_X7_copy_4_52 L0 d (by omega) hx) 1 (pc' := 13) (L' := [some (.inr (.inr 36)), some (.inr (.inr 4))]) (S' := []) (fun _ _ => rfl) ?_
    obtain ⟨x4, hx, h⟩ := bnd h
    refine ev_bind hx 9 (pc' := 26) (L' := fun x4 => [some (.inr (.inr 36)), some (.inr (.inr 4))]) (S' := fun x4 => [.inl x4, .inr (.inr 36)]) (σ' := fun x4 => (SH L0, D3)) (fun _ _ => rfl) ?_
    cases h
    exact ev_ret 8 (fun _ _ => rfl)
  rcases ite_or h with ⟨hc, h⟩ | ⟨_, h⟩
  · have hx : aref [39, 53, 67, 81, 95, 109] 6 (D 36 1) = some 66 := by rw [hc]; rfl
    refine ev_bind hx 6 (pc' := 10) (L' := fun q => [some (.inr (.inr 36)), some (.inr (.inr 4))]) (S' := fun q => [.inr (.inr q), .inr (.inr 4)]) (σ' := fun q => (SH L0, D)) (fun _ _ => rfl) ?_
    obtain ⟨D5, hx, h⟩ := bnd h
    refine ev_call (e_X7_copy_4_66 L0 d (by omega) hx) 1 (pc' := 13) (L' := [some (.inr (.inr 36)), some (.inr (.inr 4))]) (S' := []) (fun _ _ => rfl) ?_
    obtain ⟨x6, hx, h⟩ := bnd h
    refine ev_bind hx 9 (pc' := 26) (L' := fun x6 => [some (.inr (.inr 36)), some (.inr (.inr 4))]) (S' := fun x6 => [.inl x6, .inr (.inr 36)]) (σ' := fun x6 => (SH L0, D5)) (fun _ _ => rfl) ?_
    cases h
    exact ev_ret 8 (fun _ _ => rfl)
  rcases ite_or h with ⟨hc, h⟩ | ⟨_, h⟩
  · have hx : aref [39, 53, 67, 81, 95, 109] 6 (D 36 1) = some 80 := by rw [hc]; rfl
    refine ev_bind hx 6 (pc' := 10) (L' := fun q => [some (.inr (.inr 36)), some (.inr (.inr 4))]) (S' := fun q => [.inr (.inr q), .inr (.inr 4)]) (σ' := fun q => (SH L0, D)) (fun _ _ => rfl) ?_
    obtain ⟨D7, hx, h⟩ := bnd h
    refine ev_call (e_X7_copy_4_80 L0 d (by omega) hx) 1 (pc' := 13) (L' := [some (.inr (.inr 36)), some (.inr (.inr 4))]) (S' := []) (fun _ _ => rfl) ?_
    obtain ⟨x8, hx, h⟩ := bnd h
    refine ev_bind hx 9 (pc' := 26) (L' := fun x8 => [some (.inr (.inr 36)), some (.inr (.inr 4))]) (S' := fun x8 => [.inl x8, .inr (.inr 36)]) (σ' := fun x8 => (SH L0, D7)) (fun _ _ => rfl) ?_
    cases h
    exact ev_ret 8 (fun _ _ => rfl)
  rcases ite_or h with ⟨hc, h⟩ | ⟨_, h⟩
  · have hx : aref [39, 53, 67, 81, 95, 109] 6 (D 36 1) = some 94 := by rw [hc]; rfl
    refine ev_bind hx 6 (pc' := 10) (L' := fun q => [some (.inr (.inr 36)), some (.inr (.inr 4))]) (S' := fun q => [.inr (.inr q), .inr (.inr 4)]) (σ' := fun q => (SH L0, D)) (fun _ _ => rfl) ?_
    obtain ⟨D9, hx, h⟩ := bnd h
    refine ev_call (e_X7_copy_4_94 L0 d (by omega) hx) 1 (pc' := 13) (L' := [some (.inr (.inr 36)), some (.inr (.inr 4))]) (S' := []) (fun _ _ => rfl) ?_
    obtain ⟨x10, hx, h⟩ := bnd h
    refine ev_bind hx 9 (pc' := 26) (L' := fun x10 => [some (.inr (.inr 36)), some (.inr (.inr 4))]) (S' := fun x10 => [.inl x10, .inr (.inr 36)]) (σ' := fun x10 => (SH L0, D9)) (fun _ _ => rfl) ?_
    cases h
    exact ev_ret 8 (fun _ _ => rfl)
  rcases ite_or h with ⟨hc, h⟩ | ⟨_, h⟩
  · have hx : aref [39, 53, 67, 81, 95, 109] 6 (D 36 1) = some 108 := by rw [hc]; rfl
    refine ev_bind hx 6 (pc' := 10) (L' := fun q => [some (.inr (.inr 36)), some (.inr (.inr 4))]) (S' := fun q => [.inr (.inr q), .inr (.inr 4)]) (σ' := fun q => (SH L0, D)) (fun _ _ => rfl) ?_
    obtain ⟨D11, hx, h⟩ := bnd h
    refine ev_call (e_X7_copy_4_108 L0 d (by omega) hx) 1 (pc' := 13) (L' := [some (.inr (.inr 36)), some (.inr (.inr 4))]) (S' := []) (fun _ _ => rfl) ?_
    obtain ⟨x12, hx, h⟩ := bnd h
    refine ev_bind hx 9 (pc' := 26) (L' := fun x12 => [some (.inr (.inr 36)), some (.inr (.inr 4))]) (S' := fun x12 => [.inl x12, .inr (.inr 36)]) (σ' := fun x12 => (SH L0, D11)) (fun _ _ => rfl) ?_
    cases h
    exact ev_ret 8 (fun _ _ => rfl)
  cases h
set_option maxRecDepth 100000 in
set_option maxHeartbeats 4000000 in
theorem e_X4_isFall_162 (L0 d : Nat) (hd : 2 ≤ d) {p1 : Int} {D : DT} {t0 : Int} (h : m_X4_isFall 162 p1 D = some t0) : Ret mtab d 49 [.inr (.inr 162), .inl p1] (SH L0, D) (some (.inl t0), (SH L0, D)) := by
  obtain ⟨d, rfl⟩ : ∃ e, d = e + 1 := ⟨d - 1, by omega⟩
  refine Ret.of (code := k_X4_isFall) (ml := 2) rfl ?_
  show EvF mtab d k_X4_isFall 0 [some (.inr (.inr 162)), some (.inl p1)] [] (SH L0, D) (some (.inl t0), (SH L0, D))
  unfold m_X4_isFall at h
  obtain ⟨x1, hx, h⟩ := bnd h
  refine ev_call (e_X7_isInside_4 L0 d (by omega) hx) 4 (pc' := 8) (L' := [some (.inr (.inr 162)), some (.inl p1)]) (S' := []) (fun _ _ => rfl) ?_
  rcases ite_or h with ⟨hc, h⟩ | ⟨hc, h⟩
  · refine ev_ift hc 1 (pc' := 48) (L' := [some (.inr (.inr 162)), some (.inl p1)]) (S' := []) (σ' := (SH L0, D)) (fun _ _ => rfl) ?_
    cases h
    exact ev_ret 2 (fun _ _ => rfl)
  · refine ev_iff hc 1 (pc' := 11) (L' := [some (.inr (.inr 162)), some (.inl p1)]) (S' := []) (σ' := (SH L0, D)) (fun _ _ => rfl) ?_
    obtain ⟨x2, hx, h⟩ := bnd h
    refine ev_bind hx 7 (pc' := 24) (L' := fun x2 => [some (.inr (.inr 162)), some (.inl p1)]) (S' := fun x2 => [.inl x2, .inr (.inr 164)]) (σ' := fun x2 => (SH L0, D)) (fun _ _ => rfl) ?_
    obtain ⟨x3, hx, h⟩ := bnd h
    refine ev_bind hx 1 (pc' := 25) (L' := fun x3 => [some (.inr (.inr 162)), some (.inl p1)]) (S' := fun x3 => [.inl x3]) (σ' := fun x3 => (SH L0, D)) (fun _ _ => rfl) ?_
    obtain ⟨x4, hx, h⟩ := bnd h
    refine ev_bind hx 7 (pc' := 38) (L' := fun x4 => [some (.inr (.inr 162)), some (.inl p1)]) (S' := fun x4 => [.inl x4, .inr (.inr 164), .inl x3]) (σ' := fun x4 => (SH L0, D)) (fun _ _ => rfl) ?_
    obtain ⟨x5, hx, h⟩ := bnd h
    refine ev_bind hx 1 (pc' := 39) (L' := fun x5 => [some (.inr (.inr 162)), some (.inl p1)]) (S' := fun x5 => [.inl x5, .inl x3]) (σ' := fun x5 => (SH L0, D)) (fun _ _ => rfl) ?_
    rcases ite_or h with ⟨hc, h⟩ | ⟨hc, h⟩
    · refine ev_ift hc 3 (pc' := 44) (L' := [some (.inr (.inr 162)), some (.inl p1)]) (S' := []) (σ' := (SH L0, D)) (fun _ _ => rfl) ?_
      cases h
      exact ev_ret 3 (fun _ _ => rfl)
    · refine ev_iff hc 3 (pc' := 48) (L' := [some (.inr (.inr 162)), some (.inl p1)]) (S' := []) (σ' := (SH L0, D)) (fun _ _ => rfl) ?_
      cases h
      exact ev_ret 2 (fun _ _ => rfl)
set_option maxRecDepth 100000 in
set_option maxHeartbeats 4000000 in
theorem e_X4_isFall_167 (L0 d : Nat) (hd : 2 ≤ d) {p1 : Int} {D : DT} {t0 : Int} (h : m_X4_isFall 167 p1 D = some t0) : Ret mtab d 49 [.inr (.inr 167), .inl p1] (SH L0, D) (some (.inl t0), (SH L0, D)) := by
  obtain ⟨d, rfl⟩ : ∃ e, d = e + 1 := ⟨d - 1, by omega⟩
  refine Ret.of (code := k_X4_isFall) (ml := 2) rfl ?_
  show EvF mtab d k_X4_isFall 0 [some (.inr (.inr 167)), some (.inl p1)] [] (SH L0, D) (some (.inl t0), (SH L0, D))
  unfold m_X4_isFall at h
  obtain ⟨x1, hx, h⟩ := bnd h
  refine ev_call (e_X7_isInside_4 L0 d (by omega) hx) 4 (pc' := 8) (L' := [some (.inr (.inr 167)), some (.inl p1)]) (S' := []) (fun _ _ => rfl) ?_
  rcases ite_or h with ⟨hc, h⟩ | ⟨hc, h⟩
  · refine ev_ift hc 1 (pc' := 48) (L' := [some (.inr (.inr 167)), some (.inl p1)]) (S' := []) (σ' := (SH L0, D)) (fun _ _ => rfl) ?_
    cases h
    exact ev_ret 2 (fun _ _ => rfl)
  · refine ev_iff hc 1 (pc' := 11) (L' := [some (.inr (.inr 167)), some (.inl p1)]) (S' := []) (σ' := (SH L0, D)) (fun _ _ => rfl) ?_
    obtain ⟨x2, hx, h⟩ := bnd h
    refine ev_bind hx 7 (pc' := 24) (L' := fun x2 => [some (.inr (.inr 167)), some (.inl p1)]) (S' := fun x2 => [.inl x2, .inr (.inr 169)]) (σ' := fun x2 => (SH L0, D)) (fun _ _ => rfl) ?_
    obtain ⟨x3, hx, h⟩ := bnd h
    refine ev_bind hx 1 (pc' := 25) (L' := fun x3 => [some (.inr (.inr 167)), some (.inl p1)]) (S' := fun x3 => [.inl x3]) (σ' := fun x3 => (SH L0, D)) (fun _ _ => rfl) ?_
    obtain ⟨x4, hx, h⟩ := bnd h
    refine ev_bind hx 7 (pc' := 38) (L' := fun x4 => [some (.inr (.inr 167)), some (.inl p1)]) (S' := fun x4 => [.inl x4, .inr (.inr 169), .inl x3]) (σ' := fun x4 => (SH L0, D)) (fun _ _ => rfl) ?_
    obtain ⟨x5, hx, h⟩ := bnd h
    refine ev_bind hx 1 (pc' := 39) (L' := fun x5 => [some (.inr (.inr 167)), some (.inl p1)]) (S' := fun x5 => [.inl x5, .inl x3]) (σ' := fun x5 => (SH L0, D)) (fun _ _ => rfl) ?_
    rcases ite_or h with ⟨hc, h⟩ | ⟨hc, h⟩
    · refine ev_ift hc 3 (pc' := 44) (L' := [some (.inr (.inr 167)), some (.inl p1)]) (S' := []) (σ' := (SH L0, D)) (fun _ _ => rfl) ?_
      cases h
      exact ev_ret 3 (fun _ _ => rfl)
    · refine ev_iff hc 3 (pc' := 48) (L' := [some (.inr (.inr 167)), some (.inl p1)]) (S' := []) (σ' := (SH L0, D)) (fun _ _ => rfl) ?_
      cases h
      exact ev_ret 2 (fun _ _ => rfl)
set_option maxRecDepth 100000 in
set_option maxHeartbeats 4000000 in
theorem e_X4_isFall_172 (L0 d : Nat) (hd : 2 ≤ d) {p1 : Int} {D : DT} {t0 : Int} (h : m_X4_isFall 172 p1 D = some t0) : Ret mtab d 49 [.inr (.inr 172), .inl p1] (SH L0, D) (some (.inl t0), (SH L0, D)) := by
  obtain ⟨d, rfl⟩ : ∃ e, d = e + 1 := ⟨d - 1, by omega⟩
  refine Ret.of (code := k_X4_isFall) (ml := 2) rfl ?_
  show EvF mtab d k_X4_isFall 0 [some (.inr (.inr 172)), some (.inl p1)] [] (SH L0, D) (some (.inl t0), (SH L0, D))
  unfold m_X4_isFall at h
  obtain ⟨x1, hx, h⟩ := bnd h
  refine ev_call (e_X7_isInside_4 L0 d (by omega) hx) 4 (pc' := 8) (L' := [some (.inr (.inr 172)), some (.inl p1)]) (S' := []) (fun _ _ => rfl) ?_
  rcases ite_or h with ⟨hc, h⟩ | ⟨hc, h⟩
  · refine ev_ift hc 1 (pc' := 48) (L' := [some (.inr (.inr 172)), some (.inl p1)]) (S' := []) (σ' := (SH L0, D)) (fun _ _ => rfl) ?_
    cases h
    exact ev_ret 2 (fun _ _ => rfl)
  · refine ev_iff hc 1 (pc' := 11) (L' := [some (.inr (.inr 172)), some (.inl p1)]) (S' := []) (σ' := (SH L0, D)) (fun _ _ => rfl) ?_
    obtain ⟨x2, hx, h⟩ := bnd h
    refine ev_bind hx 7 (pc' := 24) (L' := fun x2 => [some (.inr (.inr 172)), some (.inl p1)]) (S' := fun x2 => [.inl x2, .inr (.inr 174)]) (σ' := fun x2 => (SH L0, D)) (fun _ _ => rfl) ?_
    obtain ⟨x3, hx, h⟩ := bnd h
    refine ev_bind hx 1 (pc' := 25) (L' := fun x3 => [some (.inr (.inr 172)), some (.inl p1)]) (S' := fun x3 => [.inl x3]) (σ' := fun x3 => (SH L0, D)) (fun _ _ => rfl) ?_
    obtain ⟨x4, hx, h⟩ := bnd h
    refine ev_bind hx 7 (pc' := 38) (L' := fun x4 => [some (.inr (.inr 172)), some (.inl p1)]) (S' := fun x4 => [.inl x4, .inr (.inr 174), .inl x3]) (σ' := fun x4 => (SH L0, D)) (fun _ _ => rfl) ?_
    obtain ⟨x5, hx, h⟩ := bnd h
    refine ev_bind hx 1 (pc' := 39) (L' := fun x5 => [some (.inr (.inr 172)), some (.inl p1)]) (S' := fun x5 => [.inl x5, .inl x3]) (σ' := fun x5 => (SH L0, D)) (fun _ _ => rfl) ?_
    rcases ite_or h with ⟨hc, h⟩ | ⟨hc, h⟩
    · refine ev_ift hc 3 (pc' := 44) (L' := [some (.inr (.inr 172)), some (.inl p1)]) (S' := []) (σ' := (SH L0, D)) (fun _ _ => rfl) ?_
      cases h
      exact ev_ret 3 (fun _ _ => rfl)
    · refine ev_iff hc 3 (pc' := 48) (L' := [some (.inr (.inr 172)), some (.inl p1)]) (S' := []) (σ' := (SH L0, D)) (fun _ _ => rfl) ?_
      cases h
      exact ev_ret 2 (fun _ _ => rfl)
