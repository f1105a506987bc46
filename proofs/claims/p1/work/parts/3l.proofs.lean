set_option maxRecDepth 100000 in
set_option maxHeartbeats 4000000 in
theorem e_X12_take (L0 d : Nat) (hd : 9 ≤ d) {p1 : Int} {D : DT} {t0 : (Int × DT)} (h : m_X12_take p1 D = some t0) : Ret mtab d 278 [.inr (.inr 187), .inl p1] (SH L0, D) (some (.inl t0.1), (SH L0, t0.2)) := by
  obtain ⟨d, rfl⟩ : ∃ e, d = e + 1 := ⟨d - 1, by omega⟩
  refine Ret.of (code := k_X12_take) (ml := 4) rfl ?_
  show EvF mtab d k_X12_take 0 [some (.inr (.inr 187)), some (.inl p1), none, none] [] (SH L0, D) (some (.inl t0.1), (SH L0, t0.2))
  unfold m_X12_take at h
  obtain ⟨x1, hx, h⟩ := bnd h
  refine ev_call (e_X12_isIn L0 d (by omega) hx) 5 (pc' := 7) (L' := [some (.inr (.inr 187)), some (.inl p1), none, none]) (S' := [.inr (.inr 187)]) (fun _ _ => rfl) ?_
  obtain ⟨⟨x2, D3⟩, hx, h⟩ := bnd h
  refine ev_call (e_X12_asks L0 d (by omega) hx) 2 (pc' := 11) (L' := [some (.inr (.inr 187)), some (.inl p1), none, none]) (S' := []) (fun _ _ => rfl) ?_
  rcases ite_or h with ⟨hc, h⟩ | ⟨hc, h⟩
  · refine ev_ift hc 1 (pc' := 14) (L' := [some (.inr (.inr 187)), some (.inl p1), none, none]) (S' := []) (σ' := (SH L0, D3)) (fun _ _ => rfl) ?_
    cases h
    exact ev_ret 2 (fun _ _ => rfl)
  · refine ev_iff hc 1 (pc' := 16) (L' := [some (.inr (.inr 187)), some (.inl p1), none, none]) (S' := []) (σ' := (SH L0, D3)) (fun _ _ => rfl) ?_
    obtain ⟨r, hr, h⟩ := bnd h
    have hX : (fun (r : Int) => ∀ (o11 : Option (Sum Int Nat)), EvF mtab d k_X12_take 68 [some (.inr (.inr 187)), some (.inl p1), some (.inl r), dv o11] [] (SH L0, D3) (some (.inl t0.1), (SH L0, t0.2))) r := by
      obtain ⟨l2_10, hre⟩ : ∃ q, q = r := ⟨r, rfl⟩
      subst hre
      intro o11
      show EvF mtab d k_X12_take 68 [some (.inr (.inr 187)), some (.inl p1), some (.inl l2_10), dv o11] [] (SH L0, D3) (some (.inl t0.1), (SH L0, t0.2))
      rcases ite_or h with ⟨hc, h⟩ | ⟨hc, h⟩
      · refine ev_ift hc 2 (pc' := 78) (L' := [some (.inr (.inr 187)), some (.inl p1), some (.inl l2_10), dv o11]) (S' := []) (σ' := (SH L0, D3)) (fun _ _ => rfl) ?_
        obtain ⟨D12, hx, h⟩ := bnd h
        refine ev_call (e_X12_keeps L0 d (by omega) hx) 2 (pc' := 82) (L' := [some (.inr (.inr 187)), some (.inl p1), some (.inl l2_10), dv o11]) (S' := []) (fun _ _ => rfl) ?_
        obtain ⟨r, hr, h⟩ := bnd h
        have hX : (fun (r : DT) => ∀ (o18 : Option (Sum Int Nat)), EvF mtab d k_X12_take 119 [some (.inr (.inr 187)), some (.inl p1), some (.inl l2_10), dv o18] [] (SH L0, r) (some (.inl t0.1), (SH L0, t0.2))) r := by
          obtain ⟨D19, hre⟩ : ∃ q, q = r := ⟨r, rfl⟩
          subst hre
          intro o18
          show EvF mtab d k_X12_take 119 [some (.inr (.inr 187)), some (.inl p1), some (.inl l2_10), dv o18] [] (SH L0, D19) (some (.inl t0.1), (SH L0, t0.2))
          obtain ⟨D20, hx, h⟩ := bnd h
          refine ev_call (e_X12_brings L0 d (by omega) hx) 3 (pc' := 124) (L' := [some (.inr (.inr 187)), some (.inl p1), some (.inl l2_10), dv o18]) (S' := []) (fun _ _ => rfl) ?_
          obtain ⟨x21, hx, h⟩ := bnd h
          refine ev_call (e_X12_jumpsBy L0 d (by omega) hx) 3 (pc' := 129) (L' := [some (.inr (.inr 187)), some (.inl p1), some (.inl l2_10), dv o18]) (S' := []) (fun _ _ => rfl) ?_
          cases h
          exact ev_ret 1 (fun _ _ => rfl)
        clear h
        refine ev_go 2 (pc' := 84) (L' := [some (.inr (.inr 187)), some (.inl p1), some (.inl l2_10), some (.inl 0)]) (S' := []) (σ' := (SH L0, D12)) (fun _ _ => rfl) ?_
        refine loop_ind (P := fun s => EvF mtab d k_X12_take 84 [some (.inr (.inr 187)), some (.inl p1), some (.inl l2_10), some (.inl s.1)] [] (SH L0, s.2) (some (.inl t0.1), (SH L0, t0.2))) (X := fun r => ∀ (o18 : Option (Sum Int Nat)), EvF mtab d k_X12_take 119 [some (.inr (.inr 187)), some (.inl p1), some (.inl l2_10), dv o18] [] (SH L0, r) (some (.inl t0.1), (SH L0, t0.2))) hr hX ?_
        clear hr hX
        intro s t hb hK0
        obtain ⟨l3_13, D14⟩ := s
        show EvF mtab d k_X12_take 84 [some (.inr (.inr 187)), some (.inl p1), some (.inl l2_10), some (.inl l3_13)] [] (SH L0, D14) (some (.inl t0.1), (SH L0, t0.2))
        unfold b_X12_take_84 at hb
        obtain ⟨x15, hx, hb⟩ := bnd hb
        refine ev_call (e_X12_blocks L0 d (by omega) hx) 3 (pc' := 89) (L' := [some (.inr (.inr 187)), some (.inl p1), some (.inl l2_10), some (.inl l3_13)]) (S' := [.inl l3_13]) (fun _ _ => rfl) ?_
        rcases ite_or hb with ⟨hc, hb⟩ | ⟨hc, hb⟩
        · refine ev_ift hc 1 (pc' := 92) (L' := [some (.inr (.inr 187)), some (.inl p1), some (.inl l2_10), some (.inl l3_13)]) (S' := []) (σ' := (SH L0, D14)) (fun _ _ => rfl) ?_
          obtain ⟨x16, hx, hb⟩ := bnd hb
          refine ev_bind hx 13 (pc' := 112) (L' := fun x16 => [some (.inr (.inr 187)), some (.inl p1), some (.inl l2_10), some (.inl l3_13)]) (S' := fun x16 => [.inl x16, .inl (w32 (568 + l3_13)), .inr (.inr 188)]) (σ' := fun x16 => (SH L0, D14)) (fun _ _ => rfl) ?_
          obtain ⟨D17, hx, hb⟩ := bnd hb
          refine ev_bind hx 1 (pc' := 113) (L' := fun D17 => [some (.inr (.inr 187)), some (.inl p1), some (.inl l2_10), some (.inl l3_13)]) (S' := fun D17 => []) (σ' := fun D17 => (SH L0, D17)) (fun _ _ => rfl) ?_
          cases hb
          exact ev_go 2 (pc' := 84) (L' := [some (.inr (.inr 187)), some (.inl p1), some (.inl l2_10), some (.inl (w32 (l3_13 + 1)))]) (S' := []) (σ' := (SH L0, D17)) (fun _ _ => rfl) hK0
        · refine ev_iff hc 1 (pc' := 119) (L' := [some (.inr (.inr 187)), some (.inl p1), some (.inl l2_10), some (.inl l3_13)]) (S' := []) (σ' := (SH L0, D14)) (fun _ _ => rfl) ?_
          cases hb
          exact hK0 (some (.inl l3_13))
      · refine ev_iff hc 2 (pc' := 72) (L' := [some (.inr (.inr 187)), some (.inl p1), some (.inl l2_10), dv o11]) (S' := []) (σ' := (SH L0, D3)) (fun _ _ => rfl) ?_
        obtain ⟨⟨x22, D23⟩, hx, h⟩ := bnd h
        refine ev_call (e_X12_refuse L0 d (by omega) hx) 3 (pc' := 77) (L' := [some (.inr (.inr 187)), some (.inl p1), some (.inl l2_10), dv o11]) (S' := []) (fun _ _ => rfl) ?_
        cases h
        exact ev_ret 1 (fun _ _ => rfl)
    clear h
    refine ev_go 4 (pc' := 20) (L' := [some (.inr (.inr 187)), some (.inl p1), some (.inl 1), some (.inl 0)]) (S' := []) (σ' := (SH L0, D3)) (fun _ _ => rfl) ?_
    refine loop_ind (P := fun s => EvF mtab d k_X12_take 20 [some (.inr (.inr 187)), some (.inl p1), some (.inl s.1), some (.inl s.2)] [] (SH L0, D3) (some (.inl t0.1), (SH L0, t0.2))) (X := fun r => ∀ (o11 : Option (Sum Int Nat)), EvF mtab d k_X12_take 68 [some (.inr (.inr 187)), some (.inl p1), some (.inl r), dv o11] [] (SH L0, D3) (some (.inl t0.1), (SH L0, t0.2))) hr hX ?_
    clear hr hX
    intro s t hb hK0
    obtain ⟨l2_4, l3_5⟩ := s
    show EvF mtab d k_X12_take 20 [some (.inr (.inr 187)), some (.inl p1), some (.inl l2_4), some (.inl l3_5)] [] (SH L0, D3) (some (.inl t0.1), (SH L0, t0.2))
    unfold b_X12_take_20 at hb
    obtain ⟨x6, hx, hb⟩ := bnd hb
    refine ev_call (e_X12_blocks L0 d (by omega) hx) 3 (pc' := 25) (L' := [some (.inr (.inr 187)), some (.inl p1), some (.inl l2_4), some (.inl l3_5)]) (S' := [.inl l3_5]) (fun _ _ => rfl) ?_
    rcases ite_or hb with ⟨hc, hb⟩ | ⟨hc, hb⟩
    · refine ev_ift hc 1 (pc' := 28) (L' := [some (.inr (.inr 187)), some (.inl p1), some (.inl l2_4), some (.inl l3_5)]) (S' := []) (σ' := (SH L0, D3)) (fun _ _ => rfl) ?_
      obtain ⟨t9, hv, hb⟩ := bnd hb
      have hJ : EvF mtab d k_X12_take 61 [some (.inr (.inr 187)), some (.inl p1), some (.inl l2_4), some (.inl l3_5)] [.inl t9] (SH L0, D3) (some (.inl t0.1), (SH L0, t0.2)) := by
        cases hb
        exact ev_go 3 (pc' := 20) (L' := [some (.inr (.inr 187)), some (.inl p1), some (.inl t9), some (.inl (w32 (l3_5 + 1)))]) (S' := []) (σ' := (SH L0, D3)) (fun _ _ => rfl) hK0
      clear hb
      rcases ite_or hv with ⟨hc, hv⟩ | ⟨hc, hv⟩
      · refine ev_ift hc 2 (pc' := 60) (L' := [some (.inr (.inr 187)), some (.inl p1), some (.inl l2_4), some (.inl l3_5)]) (S' := []) (σ' := (SH L0, D3)) (fun _ _ => rfl) ?_
        have he0 := Option.some.inj hv
        subst he0
        exact ev_go 1 (pc' := 61) (L' := [some (.inr (.inr 187)), some (.inl p1), some (.inl l2_4), some (.inl l3_5)]) (S' := [.inl 0]) (σ' := (SH L0, D3)) (fun _ _ => rfl) hJ
      · refine ev_iff hc 2 (pc' := 32) (L' := [some (.inr (.inr 187)), some (.inl p1), some (.inl l2_4), some (.inl l3_5)]) (S' := []) (σ' := (SH L0, D3)) (fun _ _ => rfl) ?_
        obtain ⟨x7, hx, hv⟩ := bnd hv
        refine ev_bind hx 8 (pc' := 43) (L' := fun x7 => [some (.inr (.inr 187)), some (.inl p1), some (.inl l2_4), some (.inl l3_5)]) (S' := fun x7 => [.inl x7]) (σ' := fun x7 => (SH L0, D3)) (fun _ _ => rfl) ?_
        obtain ⟨x8, hx, hv⟩ := bnd hv
        refine ev_bind hx 6 (pc' := 53) (L' := fun x8 => [some (.inr (.inr 187)), some (.inl p1), some (.inl l2_4), some (.inl l3_5)]) (S' := fun x8 => [.inl x8, .inl x7]) (σ' := fun x8 => (SH L0, D3)) (fun _ _ => rfl) ?_
        rcases ite_or hv with ⟨hc, hv⟩ | ⟨hc, hv⟩
        · refine ev_ift hc 1 (pc' := 56) (L' := [some (.inr (.inr 187)), some (.inl p1), some (.inl l2_4), some (.inl l3_5)]) (S' := []) (σ' := (SH L0, D3)) (fun _ _ => rfl) ?_
          have he0 := Option.some.inj hv
          subst he0
          exact ev_go 2 (pc' := 61) (L' := [some (.inr (.inr 187)), some (.inl p1), some (.inl l2_4), some (.inl l3_5)]) (S' := [.inl 1]) (σ' := (SH L0, D3)) (fun _ _ => rfl) hJ
        · refine ev_iff hc 1 (pc' := 60) (L' := [some (.inr (.inr 187)), some (.inl p1), some (.inl l2_4), some (.inl l3_5)]) (S' := []) (σ' := (SH L0, D3)) (fun _ _ => rfl) ?_
          have he0 := Option.some.inj hv
          subst he0
          exact ev_go 1 (pc' := 61) (L' := [some (.inr (.inr 187)), some (.inl p1), some (.inl l2_4), some (.inl l3_5)]) (S' := [.inl 0]) (σ' := (SH L0, D3)) (fun _ _ => rfl) hJ
    · refine ev_iff hc 1 (pc' := 68) (L' := [some (.inr (.inr 187)), some (.inl p1), some (.inl l2_4), some (.inl l3_5)]) (S' := []) (σ' := (SH L0, D3)) (fun _ _ => rfl) ?_
      cases hb
      exact hK0 (some (.inl l3_5))
set_option maxRecDepth 100000 in
set_option maxHeartbeats 4000000 in
theorem e_X12_movesTo (L0 d : Nat) (hd : 5 ≤ d) {p1 p2 : Int} {D : DT} {t0 : DT} (h : m_X12_movesTo p1 p2 D = some t0) : Ret mtab d 279 [.inr (.inr 187), .inl p1, .inl p2] (SH L0, D) (none, (SH L0, t0)) := by
  obtain ⟨d, rfl⟩ : ∃ e, d = e + 1 := ⟨d - 1, by omega⟩
  refine Ret.of (code := k_X12_movesTo) (ml := 5) rfl ?_
  show EvF mtab d k_X12_movesTo 0 [some (.inr (.inr 187)), some (.inl p1), some (.inl p2), none, none] [] (SH L0, D) (none, (SH L0, t0))
  unfold m_X12_movesTo at h
  obtain ⟨r, hr, h⟩ := bnd h
  have hX : (fun (r : DT) => ∀ (o11 : Option (Sum Int Nat)) (o12 : Option (Sum Int Nat)), EvF mtab d k_X12_movesTo 69 [some (.inr (.inr 187)), some (.inl p1), some (.inl p2), dv o11, dv o12] [] (SH L0, r) (none, (SH L0, t0))) r := by
    obtain ⟨D13, hre⟩ : ∃ q, q = r := ⟨r, rfl⟩
    subst hre
    intro o11 o12
    show EvF mtab d k_X12_movesTo 69 [some (.inr (.inr 187)), some (.inl p1), some (.inl p2), dv o11, dv o12] [] (SH L0, D13) (none, (SH L0, t0))
    obtain ⟨D14, hx, h⟩ := bnd h
    refine ev_bind hx 5 (pc' := 76) (L' := fun D14 => [some (.inr (.inr 187)), some (.inl p1), some (.inl p2), dv o11, dv o12]) (S' := fun D14 => []) (σ' := fun D14 => (SH L0, D14)) (fun _ _ => rfl) ?_
    obtain ⟨D15, hx, h⟩ := bnd h
    refine ev_call (e_X12_stands L0 d (by omega) hx) 2 (pc' := 80) (L' := [some (.inr (.inr 187)), some (.inl p1), some (.inl p2), dv o11, dv o12]) (S' := []) (fun _ _ => rfl) ?_
    cases h
    exact ev_ret 1 (fun _ _ => rfl)
  clear h
  refine ev_go 4 (pc' := 5) (L' := [some (.inr (.inr 187)), some (.inl p1), some (.inl p2), some (.inl 0), some (.inl 0)]) (S' := []) (σ' := (SH L0, D)) (fun _ _ => rfl) ?_
  refine loop_ind (P := fun s => EvF mtab d k_X12_movesTo 5 [some (.inr (.inr 187)), some (.inl p1), some (.inl p2), some (.inl s.1), some (.inl s.2.1)] [] (SH L0, s.2.2) (none, (SH L0, t0))) (X := fun r => ∀ (o11 : Option (Sum Int Nat)) (o12 : Option (Sum Int Nat)), EvF mtab d k_X12_movesTo 69 [some (.inr (.inr 187)), some (.inl p1), some (.inl p2), dv o11, dv o12] [] (SH L0, r) (none, (SH L0, t0))) hr hX ?_
  clear hr hX
  intro s t hb hK0
  obtain ⟨l3_1, l4_2, D3⟩ := s
  show EvF mtab d k_X12_movesTo 5 [some (.inr (.inr 187)), some (.inl p1), some (.inl p2), some (.inl l3_1), some (.inl l4_2)] [] (SH L0, D3) (none, (SH L0, t0))
  unfold b_X12_movesTo_5 at hb
  obtain ⟨x4, hx, hb⟩ := bnd hb
  refine ev_call (e_X12_blocks L0 d (by omega) hx) 3 (pc' := 11) (L' := [some (.inr (.inr 187)), some (.inl p1), some (.inl p2), some (.inl l3_1), some (.inl l4_2)]) (S' := [.inl l4_2]) (fun _ _ => rfl) ?_
  rcases ite_or hb with ⟨hc, hb⟩ | ⟨hc, hb⟩
  · refine ev_ift hc 1 (pc' := 14) (L' := [some (.inr (.inr 187)), some (.inl p1), some (.inl p2), some (.inl l3_1), some (.inl l4_2)]) (S' := []) (σ' := (SH L0, D3)) (fun _ _ => rfl) ?_
    obtain ⟨x5, hx, hb⟩ := bnd hb
    refine ev_bind hx 6 (pc' := 25) (L' := fun x5 => [some (.inr (.inr 187)), some (.inl p1), some (.inl p2), some (.inl l3_1), some (.inl l4_2)]) (S' := fun x5 => [.inl x5]) (σ' := fun x5 => (SH L0, D3)) (fun _ _ => rfl) ?_
    obtain ⟨⟨l3_9, D10⟩, hv, hb⟩ := bnd hb
    have hJ : EvF mtab d k_X12_movesTo 63 [some (.inr (.inr 187)), some (.inl p1), some (.inl p2), some (.inl l3_9), some (.inl l4_2)] [] (SH L0, D10) (none, (SH L0, t0)) := by
      cases hb
      exact ev_go 2 (pc' := 5) (L' := [some (.inr (.inr 187)), some (.inl p1), some (.inl p2), some (.inl l3_9), some (.inl (w32 (l4_2 + 1)))]) (S' := []) (σ' := (SH L0, D10)) (fun _ _ => rfl) hK0
    clear hb
    rcases ite_or hv with ⟨hc, hv⟩ | ⟨hc, hv⟩
    · refine ev_ift hc 2 (pc' := 29) (L' := [some (.inr (.inr 187)), some (.inl p1), some (.inl p2), some (.inl l3_1), some (.inl l4_2)]) (S' := []) (σ' := (SH L0, D3)) (fun _ _ => rfl) ?_
      have he0 := Option.some.inj hv
      obtain ⟨ha0, he1⟩ := Prod.mk.inj he0
      clear he0
      subst ha0
      subst he1
      exact ev_go 1 (pc' := 63) (L' := [some (.inr (.inr 187)), some (.inl p1), some (.inl p2), some (.inl l3_1), some (.inl l4_2)]) (S' := []) (σ' := (SH L0, D3)) (fun _ _ => rfl) hJ
    · refine ev_iff hc 2 (pc' := 32) (L' := [some (.inr (.inr 187)), some (.inl p1), some (.inl p2), some (.inl l3_1), some (.inl l4_2)]) (S' := []) (σ' := (SH L0, D3)) (fun _ _ => rfl) ?_
      obtain ⟨t6, hv, hv⟩ := bnd hv
      have hJ : EvF mtab d k_X12_movesTo 48 [some (.inr (.inr 187)), some (.inl p1), some (.inl p2), some (.inl l3_1), some (.inl l4_2)] [.inl t6, .inr (.inr 215)] (SH L0, D3) (none, (SH L0, t0)) := by
        obtain ⟨x7, hx, hv⟩ := bnd hv
        refine ev_bind hx 6 (pc' := 59) (L' := fun x7 => [some (.inr (.inr 187)), some (.inl p1), some (.inl p2), some (.inl l3_1), some (.inl l4_2)]) (S' := fun x7 => [.inl x7, .inl t6, .inr (.inr 215)]) (σ' := fun x7 => (SH L0, D3)) (fun _ _ => rfl) ?_
        obtain ⟨D8, hx, hv⟩ := bnd hv
        refine ev_bind hx 1 (pc' := 60) (L' := fun D8 => [some (.inr (.inr 187)), some (.inl p1), some (.inl p2), some (.inl l3_1), some (.inl l4_2)]) (S' := fun D8 => []) (σ' := fun D8 => (SH L0, D8)) (fun _ _ => rfl) ?_
        have he0 := Option.some.inj hv
        obtain ⟨ha0, he1⟩ := Prod.mk.inj he0
        clear he0
        subst ha0
        subst he1
        exact ev_go 1 (pc' := 63) (L' := [some (.inr (.inr 187)), some (.inl p1), some (.inl p2), some (.inl (w32 (l3_1 + 1))), some (.inl l4_2)]) (S' := []) (σ' := (SH L0, D8)) (fun _ _ => rfl) hJ
      clear hv
      rcases ite_or hv with ⟨hc, hv⟩ | ⟨hc, hv⟩
      · refine ev_ift hc 5 (pc' := 41) (L' := [some (.inr (.inr 187)), some (.inl p1), some (.inl p2), some (.inl l3_1), some (.inl l4_2)]) (S' := [.inr (.inr 215)]) (σ' := (SH L0, D3)) (fun _ _ => rfl) ?_
        have he0 := Option.some.inj hv
        subst he0
        exact ev_go 2 (pc' := 48) (L' := [some (.inr (.inr 187)), some (.inl p1), some (.inl p2), some (.inl l3_1), some (.inl l4_2)]) (S' := [.inl l3_1, .inr (.inr 215)]) (σ' := (SH L0, D3)) (fun _ _ => rfl) hJ
      · refine ev_iff hc 5 (pc' := 45) (L' := [some (.inr (.inr 187)), some (.inl p1), some (.inl p2), some (.inl l3_1), some (.inl l4_2)]) (S' := [.inr (.inr 215)]) (σ' := (SH L0, D3)) (fun _ _ => rfl) ?_
        have he0 := Option.some.inj hv
        subst he0
        exact ev_go 3 (pc' := 48) (L' := [some (.inr (.inr 187)), some (.inl p1), some (.inl p2), some (.inl l3_1), some (.inl l4_2)]) (S' := [.inl (w32 (l3_1 + 1)), .inr (.inr 215)]) (σ' := (SH L0, D3)) (fun _ _ => rfl) hJ
  · refine ev_iff hc 1 (pc' := 69) (L' := [some (.inr (.inr 187)), some (.inl p1), some (.inl p2), some (.inl l3_1), some (.inl l4_2)]) (S' := []) (σ' := (SH L0, D3)) (fun _ _ => rfl) ?_
    cases hb
    exact hK0 (some (.inl l3_1)) (some (.inl l4_2))
set_option maxRecDepth 100000 in
set_option maxHeartbeats 4000000 in
theorem e_X12_isPlace (L0 d : Nat) (hd : 2 ≤ d) {p1 : Int} {D : DT} {t0 : Int} (h : m_X12_isPlace p1 D = some t0) : Ret mtab d 280 [.inr (.inr 187), .inl p1] (SH L0, D) (some (.inl t0), (SH L0, D)) := by
  obtain ⟨d, rfl⟩ : ∃ e, d = e + 1 := ⟨d - 1, by omega⟩
  refine Ret.of (code := k_X12_isPlace) (ml := 2) rfl ?_
  show EvF mtab d k_X12_isPlace 0 [some (.inr (.inr 187)), some (.inl p1)] [] (SH L0, D) (some (.inl t0), (SH L0, D))
  unfold m_X12_isPlace at h
  obtain ⟨x1, hx, h⟩ := bnd h
  refine ev_call (e_X12_blocks L0 d (by omega) hx) 4 (pc' := 6) (L' := [some (.inr (.inr 187)), some (.inl p1)]) (S' := [.inl 0, .inl p1]) (fun _ _ => rfl) ?_
  obtain ⟨x2, hx, h⟩ := bnd h
  refine ev_call (e_X12_isIn L0 d (by omega) hx) 3 (pc' := 11) (L' := [some (.inr (.inr 187)), some (.inl p1)]) (S' := []) (fun _ _ => rfl) ?_
  obtain ⟨x3, hx, h⟩ := bnd h
  cases h
  exact ev_brt hx 1 (fun _ _ => rfl)
set_option maxRecDepth 100000 in
set_option maxHeartbeats 4000000 in
theorem e_X12_move (L0 d : Nat) (hd : 9 ≤ d) {p1 p2 : Int} {D : DT} {t0 : (Int × DT)} (h : m_X12_move p1 p2 D = some t0) : Ret mtab d 281 [.inr (.inr 187), .inl p1, .inl p2] (SH L0, D) (some (.inl t0.1), (SH L0, t0.2)) := by
  obtain ⟨d, rfl⟩ : ∃ e, d = e + 1 := ⟨d - 1, by omega⟩
  refine Ret.of (code := k_X12_move) (ml := 4) rfl ?_
  show EvF mtab d k_X12_move 0 [some (.inr (.inr 187)), some (.inl p1), some (.inl p2), none] [] (SH L0, D) (some (.inl t0.1), (SH L0, t0.2))
  unfold m_X12_move at h
  obtain ⟨x1, hx, h⟩ := bnd h
  refine ev_call (e_X12_isPlace L0 d (by omega) hx) 4 (pc' := 6) (L' := [some (.inr (.inr 187)), some (.inl p1), some (.inl p2), none]) (S' := [.inr (.inr 187)]) (fun _ _ => rfl) ?_
  obtain ⟨x2, hx, h⟩ := bnd h
  refine ev_call (e_X12_isBlock L0 d (by omega) hx) 3 (pc' := 11) (L' := [some (.inr (.inr 187)), some (.inl p1), some (.inl p2), none]) (S' := [.inl x1, .inr (.inr 187)]) (fun _ _ => rfl) ?_
  obtain ⟨⟨x3, D4⟩, hx, h⟩ := bnd h
  refine ev_call (e_X12_asks L0 d (by omega) hx) 1 (pc' := 14) (L' := [some (.inr (.inr 187)), some (.inl p1), some (.inl p2), none]) (S' := []) (fun _ _ => rfl) ?_
  rcases ite_or h with ⟨hc, h⟩ | ⟨hc, h⟩
  · refine ev_ift hc 1 (pc' := 17) (L' := [some (.inr (.inr 187)), some (.inl p1), some (.inl p2), none]) (S' := []) (σ' := (SH L0, D4)) (fun _ _ => rfl) ?_
    cases h
    exact ev_ret 2 (fun _ _ => rfl)
  · refine ev_iff hc 1 (pc' := 19) (L' := [some (.inr (.inr 187)), some (.inl p1), some (.inl p2), none]) (S' := []) (σ' := (SH L0, D4)) (fun _ _ => rfl) ?_
    obtain ⟨x5, hx, h⟩ := bnd h
    refine ev_bind hx 6 (pc' := 29) (L' := fun x5 => [some (.inr (.inr 187)), some (.inl p1), some (.inl p2), none]) (S' := fun x5 => [.inl x5]) (σ' := fun x5 => (SH L0, D4)) (fun _ _ => rfl) ?_
    rcases ite_or h with ⟨hc, h⟩ | ⟨hc, h⟩
    · refine ev_ift hc 2 (pc' := 33) (L' := [some (.inr (.inr 187)), some (.inl p1), some (.inl p2), none]) (S' := []) (σ' := (SH L0, D4)) (fun _ _ => rfl) ?_
      obtain ⟨⟨x6, D7⟩, hx, h⟩ := bnd h
      refine ev_call (e_X12_refuse L0 d (by omega) hx) 3 (pc' := 38) (L' := [some (.inr (.inr 187)), some (.inl p1), some (.inl p2), none]) (S' := []) (fun _ _ => rfl) ?_
      cases h
      exact ev_ret 1 (fun _ _ => rfl)
    · refine ev_iff hc 2 (pc' := 39) (L' := [some (.inr (.inr 187)), some (.inl p1), some (.inl p2), none]) (S' := []) (σ' := (SH L0, D4)) (fun _ _ => rfl) ?_
      obtain ⟨D8, hx, h⟩ := bnd h
      refine ev_call (e_X12_movesTo L0 d (by omega) hx) 4 (pc' := 45) (L' := [some (.inr (.inr 187)), some (.inl p1), some (.inl p2), none]) (S' := []) (fun _ _ => rfl) ?_
      obtain ⟨D9, hx, h⟩ := bnd h
      refine ev_call (e_X12_keeps L0 d (by omega) hx) 2 (pc' := 49) (L' := [some (.inr (.inr 187)), some (.inl p1), some (.inl p2), none]) (S' := []) (fun _ _ => rfl) ?_
      obtain ⟨r, hr, h⟩ := bnd h
      have hX : (fun (r : DT) => ∀ (o15 : Option (Sum Int Nat)), EvF mtab d k_X12_move 81 [some (.inr (.inr 187)), some (.inl p1), some (.inl p2), dv o15] [] (SH L0, r) (some (.inl t0.1), (SH L0, t0.2))) r := by
        obtain ⟨D16, hre⟩ : ∃ q, q = r := ⟨r, rfl⟩
        subst hre
        intro o15
        show EvF mtab d k_X12_move 81 [some (.inr (.inr 187)), some (.inl p1), some (.inl p2), dv o15] [] (SH L0, D16) (some (.inl t0.1), (SH L0, t0.2))
        obtain ⟨x17, hx, h⟩ := bnd h
        refine ev_call (e_X12_jumpsBy L0 d (by omega) hx) 3 (pc' := 86) (L' := [some (.inr (.inr 187)), some (.inl p1), some (.inl p2), dv o15]) (S' := []) (fun _ _ => rfl) ?_
        cases h
        exact ev_ret 1 (fun _ _ => rfl)
      clear h
      refine ev_go 2 (pc' := 51) (L' := [some (.inr (.inr 187)), some (.inl p1), some (.inl p2), some (.inl 0)]) (S' := []) (σ' := (SH L0, D9)) (fun _ _ => rfl) ?_
      refine loop_ind (P := fun s => EvF mtab d k_X12_move 51 [some (.inr (.inr 187)), some (.inl p1), some (.inl p2), some (.inl s.1)] [] (SH L0, s.2) (some (.inl t0.1), (SH L0, t0.2))) (X := fun r => ∀ (o15 : Option (Sum Int Nat)), EvF mtab d k_X12_move 81 [some (.inr (.inr 187)), some (.inl p1), some (.inl p2), dv o15] [] (SH L0, r) (some (.inl t0.1), (SH L0, t0.2))) hr hX ?_
      clear hr hX
      intro s t hb hK0
      obtain ⟨l3_10, D11⟩ := s
      show EvF mtab d k_X12_move 51 [some (.inr (.inr 187)), some (.inl p1), some (.inl p2), some (.inl l3_10)] [] (SH L0, D11) (some (.inl t0.1), (SH L0, t0.2))
      unfold b_X12_move_51 at hb
      obtain ⟨x12, hx, hb⟩ := bnd hb
      refine ev_call (e_X12_blocks L0 d (by omega) hx) 3 (pc' := 56) (L' := [some (.inr (.inr 187)), some (.inl p1), some (.inl p2), some (.inl l3_10)]) (S' := [.inl l3_10]) (fun _ _ => rfl) ?_
      rcases ite_or hb with ⟨hc, hb⟩ | ⟨hc, hb⟩
      · refine ev_ift hc 1 (pc' := 59) (L' := [some (.inr (.inr 187)), some (.inl p1), some (.inl p2), some (.inl l3_10)]) (S' := []) (σ' := (SH L0, D11)) (fun _ _ => rfl) ?_
        obtain ⟨x13, hx, hb⟩ := bnd hb
        refine ev_bind hx 9 (pc' := 74) (L' := fun x13 => [some (.inr (.inr 187)), some (.inl p1), some (.inl p2), some (.inl l3_10)]) (S' := fun x13 => [.inl x13, .inl (w32 (568 + l3_10)), .inr (.inr 188)]) (σ' := fun x13 => (SH L0, D11)) (fun _ _ => rfl) ?_
        obtain ⟨D14, hx, hb⟩ := bnd hb
        refine ev_bind hx 1 (pc' := 75) (L' := fun D14 => [some (.inr (.inr 187)), some (.inl p1), some (.inl p2), some (.inl l3_10)]) (S' := fun D14 => []) (σ' := fun D14 => (SH L0, D14)) (fun _ _ => rfl) ?_
        cases hb
        exact ev_go 2 (pc' := 51) (L' := [some (.inr (.inr 187)), some (.inl p1), some (.inl p2), some (.inl (w32 (l3_10 + 1)))]) (S' := []) (σ' := (SH L0, D14)) (fun _ _ => rfl) hK0
      · refine ev_iff hc 1 (pc' := 81) (L' := [some (.inr (.inr 187)), some (.inl p1), some (.inl p2), some (.inl l3_10)]) (S' := []) (σ' := (SH L0, D11)) (fun _ _ => rfl) ?_
        cases hb
        exact hK0 (some (.inl l3_10))
set_option maxRecDepth 100000 in
set_option maxHeartbeats 4000000 in
theorem e_X12_undo (L0 d : Nat) (hd : 2 ≤ d) {D : DT} {t0 : (Int × DT)} (h : m_X12_undo  D = some t0) : Ret mtab d 282 [.inr (.inr 187)] (SH L0, D) (some (.inl t0.1), (SH L0, t0.2)) := by
  obtain ⟨d, rfl⟩ : ∃ e, d = e + 1 := ⟨d - 1, by omega⟩
  refine Ret.of (code := k_X12_undo) (ml := 1) rfl ?_
  show EvF mtab d k_X12_undo 0 [some (.inr (.inr 187))] [] (SH L0, D) (some (.inl t0.1), (SH L0, t0.2))
  unfold m_X12_undo at h
  rcases ite_or h with ⟨hc, h⟩ | ⟨hc, h⟩
  · refine ev_ift hc 9 (pc' := 17) (L' := [some (.inr (.inr 187))]) (S' := []) (σ' := (SH L0, dput (dput D 187 3 0) 187 2 0)) (fun _ _ => rfl) ?_
    obtain ⟨⟨x1, D2⟩, hx, h⟩ := bnd h
    refine ev_call (e_X12_refuse L0 d (by omega) hx) 3 (pc' := 22) (L' := [some (.inr (.inr 187))]) (S' := []) (fun _ _ => rfl) ?_
    cases h
    exact ev_ret 1 (fun _ _ => rfl)
  · refine ev_iff hc 9 (pc' := 23) (L' := [some (.inr (.inr 187))]) (S' := []) (σ' := (SH L0, dput (dput D 187 3 0) 187 2 0)) (fun _ _ => rfl) ?_
    obtain ⟨D3, hx, h⟩ := bnd h
    refine ev_call (e_X12_copy L0 d (by omega) hx) 7 (pc' := 36) (L' := [some (.inr (.inr 187))]) (S' := []) (fun _ _ => rfl) ?_
    cases h
    exact ev_ret 9 (fun _ _ => rfl)
set_option maxRecDepth 100000 in
set_option maxHeartbeats 4000000 in
theorem e_X12_moved (L0 d : Nat) (hd : 9 ≤ d) {p1 p2 : Int} {D : DT} {t0 : (Int × DT)} (h : m_X12_moved p1 p2 D = some t0) : Ret mtab d 283 [.inr (.inr 187), .inl p1, .inl p2] (SH L0, D) (some (.inl t0.1), (SH L0, t0.2)) := by
  obtain ⟨d, rfl⟩ : ∃ e, d = e + 1 := ⟨d - 1, by omega⟩
  refine Ret.of (code := k_X12_moved) (ml := 3) rfl ?_
  show EvF mtab d k_X12_moved 0 [some (.inr (.inr 187)), some (.inl p1), some (.inl p2)] [] (SH L0, D) (some (.inl t0.1), (SH L0, t0.2))
  unfold m_X12_moved at h
  obtain ⟨x1, hx, h⟩ := bnd h
  refine ev_call (e_X12_isPlace L0 d (by omega) hx) 4 (pc' := 6) (L' := [some (.inr (.inr 187)), some (.inl p1), some (.inl p2)]) (S' := [.inr (.inr 187)]) (fun _ _ => rfl) ?_
  obtain ⟨x2, hx, h⟩ := bnd h
  refine ev_call (e_X12_isBlock L0 d (by omega) hx) 3 (pc' := 11) (L' := [some (.inr (.inr 187)), some (.inl p1), some (.inl p2)]) (S' := [.inl x1, .inr (.inr 187)]) (fun _ _ => rfl) ?_
  obtain ⟨⟨x3, D4⟩, hx, h⟩ := bnd h
  refine ev_call (e_X12_asks L0 d (by omega) hx) 1 (pc' := 14) (L' := [some (.inr (.inr 187)), some (.inl p1), some (.inl p2)]) (S' := []) (fun _ _ => rfl) ?_
  rcases ite_or h with ⟨hc, h⟩ | ⟨hc, h⟩
  · refine ev_ift hc 1 (pc' := 17) (L' := [some (.inr (.inr 187)), some (.inl p1), some (.inl p2)]) (S' := []) (σ' := (SH L0, D4)) (fun _ _ => rfl) ?_
    cases h
    exact ev_ret 2 (fun _ _ => rfl)
  · refine ev_iff hc 1 (pc' := 19) (L' := [some (.inr (.inr 187)), some (.inl p1), some (.inl p2)]) (S' := []) (σ' := (SH L0, D4)) (fun _ _ => rfl) ?_
    obtain ⟨D5, hx, h⟩ := bnd h
    refine ev_call (e_X12_movesTo L0 d (by omega) hx) 4 (pc' := 25) (L' := [some (.inr (.inr 187)), some (.inl p1), some (.inl p2)]) (S' := []) (fun _ _ => rfl) ?_
    obtain ⟨x6, hx, h⟩ := bnd h
    refine ev_call (e_X12_jumpsBy L0 d (by omega) hx) 3 (pc' := 30) (L' := [some (.inr (.inr 187)), some (.inl p1), some (.inl p2)]) (S' := []) (fun _ _ => rfl) ?_
    cases h
    exact ev_ret 1 (fun _ _ => rfl)
set_option maxRecDepth 100000 in
set_option maxHeartbeats 4000000 in
theorem e_X12_best (L0 d : Nat) (hd : 9 ≤ d) {p1 : Int} {D : DT} {t0 : (Int × DT)} (h : m_X12_best p1 D = some t0) : Ret mtab d 284 [.inr (.inr 187), .inl p1] (SH L0, D) (some (.inl t0.1), (SH L0, t0.2)) := by
  obtain ⟨d, rfl⟩ : ∃ e, d = e + 1 := ⟨d - 1, by omega⟩
  refine Ret.of (code := k_X12_best) (ml := 8) rfl ?_
  show EvF mtab d k_X12_best 0 [some (.inr (.inr 187)), some (.inl p1), none, none, none, none, none, none] [] (SH L0, D) (some (.inl t0.1), (SH L0, t0.2))
  unfold m_X12_best at h
  obtain ⟨x1, hx, h⟩ := bnd h
  refine ev_call (e_X12_isIn L0 d (by omega) hx) 5 (pc' := 7) (L' := [some (.inr (.inr 187)), some (.inl p1), none, none, none, none, none, none]) (S' := [.inr (.inr 187)]) (fun _ _ => rfl) ?_
  obtain ⟨⟨x2, D3⟩, hx, h⟩ := bnd h
  refine ev_call (e_X12_asks L0 d (by omega) hx) 2 (pc' := 11) (L' := [some (.inr (.inr 187)), some (.inl p1), none, none, none, none, none, none]) (S' := []) (fun _ _ => rfl) ?_
  rcases ite_or h with ⟨hc, h⟩ | ⟨hc, h⟩
  · refine ev_ift hc 1 (pc' := 14) (L' := [some (.inr (.inr 187)), some (.inl p1), none, none, none, none, none, none]) (S' := []) (σ' := (SH L0, D3)) (fun _ _ => rfl) ?_
    cases h
    exact ev_ret 2 (fun _ _ => rfl)
  · refine ev_iff hc 1 (pc' := 16) (L' := [some (.inr (.inr 187)), some (.inl p1), none, none, none, none, none, none]) (S' := []) (σ' := (SH L0, D3)) (fun _ _ => rfl) ?_
    obtain ⟨D4, hx, h⟩ := bnd h
    refine ev_call (e_X12_brings L0 d (by omega) hx) 3 (pc' := 21) (L' := [some (.inr (.inr 187)), some (.inl p1), none, none, none, none, none, none]) (S' := []) (fun _ _ => rfl) ?_
    obtain ⟨x5, hx, h⟩ := bnd h
    refine ev_call (e_X12_jumpsBy L0 d (by omega) hx) 3 (pc' := 26) (L' := [some (.inr (.inr 187)), some (.inl p1), none, none, none, none, none, none]) (S' := []) (fun _ _ => rfl) ?_
    obtain ⟨r, hr, h⟩ := bnd h
    have hX : (fun (r : (Int × Int × Int × DT)) => ∀ (o35 : Option (Sum Int Nat)) (o36 : Option (Sum Int Nat)) (o37 : Option (Sum Int Nat)), EvF mtab d k_X12_best 102 [some (.inr (.inr 187)), some (.inl p1), some (.inl r.1), some (.inl r.2.1), some (.inl r.2.2.1), dv o35, dv o36, dv o37] [] (SH L0, r.2.2.2) (some (.inl t0.1), (SH L0, t0.2))) r := by
      obtain ⟨l2_32, l3_33, l4_34, D38⟩ := r
      intro o35 o36 o37
      show EvF mtab d k_X12_best 102 [some (.inr (.inr 187)), some (.inl p1), some (.inl l2_32), some (.inl l3_33), some (.inl l4_34), dv o35, dv o36, dv o37] [] (SH L0, D38) (some (.inl t0.1), (SH L0, t0.2))
      rcases ite_or h with ⟨hc, h⟩ | ⟨hc, h⟩
      · refine ev_ift hc 2 (pc' := 106) (L' := [some (.inr (.inr 187)), some (.inl p1), some (.inl l2_32), some (.inl l3_33), some (.inl l4_34), dv o35, dv o36, dv o37]) (S' := []) (σ' := (SH L0, D38)) (fun _ _ => rfl) ?_
        obtain ⟨⟨x39, D40⟩, hx, h⟩ := bnd h
        refine ev_call (e_X12_refuse L0 d (by omega) hx) 3 (pc' := 111) (L' := [some (.inr (.inr 187)), some (.inl p1), some (.inl l2_32), some (.inl l3_33), some (.inl l4_34), dv o35, dv o36, dv o37]) (S' := []) (fun _ _ => rfl) ?_
        cases h
        exact ev_ret 1 (fun _ _ => rfl)
      · refine ev_iff hc 2 (pc' := 112) (L' := [some (.inr (.inr 187)), some (.inl p1), some (.inl l2_32), some (.inl l3_33), some (.inl l4_34), dv o35, dv o36, dv o37]) (S' := []) (σ' := (SH L0, D38)) (fun _ _ => rfl) ?_
        rcases ite_or h with ⟨hc, h⟩ | ⟨hc, h⟩
        · refine ev_ift hc 2 (pc' := 116) (L' := [some (.inr (.inr 187)), some (.inl p1), some (.inl l2_32), some (.inl l3_33), some (.inl l4_34), dv o35, dv o36, dv o37]) (S' := []) (σ' := (SH L0, D38)) (fun _ _ => rfl) ?_
          cases h
          exact ev_ret 3 (fun _ _ => rfl)
        · refine ev_iff hc 2 (pc' := 120) (L' := [some (.inr (.inr 187)), some (.inl p1), some (.inl l2_32), some (.inl l3_33), some (.inl l4_34), dv o35, dv o36, dv o37]) (S' := []) (σ' := (SH L0, D38)) (fun _ _ => rfl) ?_
          rcases ite_or h with ⟨hc, h⟩ | ⟨hc, h⟩
          · refine ev_ift hc 3 (pc' := 125) (L' := [some (.inr (.inr 187)), some (.inl p1), some (.inl l2_32), some (.inl l3_33), some (.inl l4_34), dv o35, dv o36, dv o37]) (S' := []) (σ' := (SH L0, D38)) (fun _ _ => rfl) ?_
            cases h
            exact ev_ret 3 (fun _ _ => rfl)
          · refine ev_iff hc 3 (pc' := 130) (L' := [some (.inr (.inr 187)), some (.inl p1), some (.inl l2_32), some (.inl l3_33), some (.inl l4_34), dv o35, dv o36, dv o37]) (S' := []) (σ' := (SH L0, D38)) (fun _ _ => rfl) ?_
            cases h
            exact ev_ret 2 (fun _ _ => rfl)
    clear h
    refine ev_go 7 (pc' := 35) (L' := [some (.inr (.inr 187)), some (.inl p1), some (.inl x5), some (.inl (-1)), some (.inl (-1)), some (.inl 0), none, none]) (S' := []) (σ' := (SH L0, D4)) (fun _ _ => rfl) ?_
    refine loop_ind (P := fun s => ∀ (o10 : Option (Sum Int Nat)) (o11 : Option (Sum Int Nat)), EvF mtab d k_X12_best 35 [some (.inr (.inr 187)), some (.inl p1), some (.inl s.1), some (.inl s.2.1), some (.inl s.2.2.1), some (.inl s.2.2.2.1), dv o10, dv o11] [] (SH L0, s.2.2.2.2) (some (.inl t0.1), (SH L0, t0.2))) (X := fun r => ∀ (o35 : Option (Sum Int Nat)) (o36 : Option (Sum Int Nat)) (o37 : Option (Sum Int Nat)), EvF mtab d k_X12_best 102 [some (.inr (.inr 187)), some (.inl p1), some (.inl r.1), some (.inl r.2.1), some (.inl r.2.2.1), dv o35, dv o36, dv o37] [] (SH L0, r.2.2.2) (some (.inl t0.1), (SH L0, t0.2))) hr hX ?_ none none
    clear hr hX
    intro s t hb hK0
    obtain ⟨l2_6, l3_7, l4_8, l5_9, D12⟩ := s
    intro o10 o11
    show EvF mtab d k_X12_best 35 [some (.inr (.inr 187)), some (.inl p1), some (.inl l2_6), some (.inl l3_7), some (.inl l4_8), some (.inl l5_9), dv o10, dv o11] [] (SH L0, D12) (some (.inl t0.1), (SH L0, t0.2))
    unfold b_X12_best_35 at hb
    obtain ⟨x13, hx, hb⟩ := bnd hb
    refine ev_call (e_X12_blocks L0 d (by omega) hx) 3 (pc' := 41) (L' := [some (.inr (.inr 187)), some (.inl p1), some (.inl l2_6), some (.inl l3_7), some (.inl l4_8), some (.inl l5_9), dv o10, dv o11]) (S' := [.inl l5_9]) (fun _ _ => rfl) ?_
    rcases ite_or hb with ⟨hc, hb⟩ | ⟨hc, hb⟩
    · refine ev_ift hc 1 (pc' := 44) (L' := [some (.inr (.inr 187)), some (.inl p1), some (.inl l2_6), some (.inl l3_7), some (.inl l4_8), some (.inl l5_9), dv o10, dv o11]) (S' := []) (σ' := (SH L0, D12)) (fun _ _ => rfl) ?_
      obtain ⟨r, hr, hb⟩ := bnd hb
      have hX : (fun (r : (Int × Int × Int × DT)) => ∀ (o29 : Option (Sum Int Nat)) (o30 : Option (Sum Int Nat)), EvF mtab d k_X12_best 96 [some (.inr (.inr 187)), some (.inl p1), some (.inl r.1), some (.inl r.2.1), some (.inl r.2.2.1), some (.inl l5_9), dv o29, dv o30] [] (SH L0, r.2.2.2) (some (.inl t0.1), (SH L0, t0.2))) r := by
        obtain ⟨l2_26, l3_27, l4_28, D31⟩ := r
        intro o29 o30
        show EvF mtab d k_X12_best 96 [some (.inr (.inr 187)), some (.inl p1), some (.inl l2_26), some (.inl l3_27), some (.inl l4_28), some (.inl l5_9), dv o29, dv o30] [] (SH L0, D31) (some (.inl t0.1), (SH L0, t0.2))
        cases hb
        exact ev_go 2 (pc' := 35) (L' := [some (.inr (.inr 187)), some (.inl p1), some (.inl l2_26), some (.inl l3_27), some (.inl l4_28), some (.inl (w32 (l5_9 + 1))), dv o29, dv o30]) (S' := []) (σ' := (SH L0, D31)) (fun _ _ => rfl) (hK0 o29 o30)
      clear hb
      refine ev_go 2 (pc' := 47) (L' := [some (.inr (.inr 187)), some (.inl p1), some (.inl l2_6), some (.inl l3_7), some (.inl l4_8), some (.inl l5_9), some (.inl 0), dv o11]) (S' := []) (σ' := (SH L0, D12)) (fun _ _ => rfl) ?_
      refine loop_ind (P := fun s => ∀ (o18 : Option (Sum Int Nat)), EvF mtab d k_X12_best 47 [some (.inr (.inr 187)), some (.inl p1), some (.inl s.1), some (.inl s.2.1), some (.inl s.2.2.1), some (.inl l5_9), some (.inl s.2.2.2.1), dv o18] [] (SH L0, s.2.2.2.2) (some (.inl t0.1), (SH L0, t0.2))) (X := fun r => ∀ (o29 : Option (Sum Int Nat)) (o30 : Option (Sum Int Nat)), EvF mtab d k_X12_best 96 [some (.inr (.inr 187)), some (.inl p1), some (.inl r.1), some (.inl r.2.1), some (.inl r.2.2.1), some (.inl l5_9), dv o29, dv o30] [] (SH L0, r.2.2.2) (some (.inl t0.1), (SH L0, t0.2))) hr hX ?_ o11
      clear hr hX
      intro s t hb hK1
      obtain ⟨l2_14, l3_15, l4_16, l6_17, D19⟩ := s
      intro o18
      show EvF mtab d k_X12_best 47 [some (.inr (.inr 187)), some (.inl p1), some (.inl l2_14), some (.inl l3_15), some (.inl l4_16), some (.inl l5_9), some (.inl l6_17), dv o18] [] (SH L0, D19) (some (.inl t0.1), (SH L0, t0.2))
      unfold b_X12_best_47 at hb
      obtain ⟨x20, hx, hb⟩ := bnd hb
      refine ev_call (e_X12_blocks L0 d (by omega) hx) 3 (pc' := 53) (L' := [some (.inr (.inr 187)), some (.inl p1), some (.inl l2_14), some (.inl l3_15), some (.inl l4_16), some (.inl l5_9), some (.inl l6_17), dv o18]) (S' := [.inl l6_17]) (fun _ _ => rfl) ?_
      rcases ite_or hb with ⟨hc, hb⟩ | ⟨hc, hb⟩
      · refine ev_ift hc 1 (pc' := 56) (L' := [some (.inr (.inr 187)), some (.inl p1), some (.inl l2_14), some (.inl l3_15), some (.inl l4_16), some (.inl l5_9), some (.inl l6_17), dv o18]) (S' := []) (σ' := (SH L0, D19)) (fun _ _ => rfl) ?_
        obtain ⟨D21, hx, hb⟩ := bnd hb
        refine ev_call (e_X12_movesTo L0 d (by omega) hx) 4 (pc' := 64) (L' := [some (.inr (.inr 187)), some (.inl p1), some (.inl l2_14), some (.inl l3_15), some (.inl l4_16), some (.inl l5_9), some (.inl l6_17), dv o18]) (S' := []) (fun _ _ => rfl) ?_
        obtain ⟨x22, hx, hb⟩ := bnd hb
        refine ev_call (e_X12_jumpsBy L0 d (by omega) hx) 3 (pc' := 69) (L' := [some (.inr (.inr 187)), some (.inl p1), some (.inl l2_14), some (.inl l3_15), some (.inl l4_16), some (.inl l5_9), some (.inl l6_17), dv o18]) (S' := []) (fun _ _ => rfl) ?_
        obtain ⟨⟨l2_23, l3_24, l4_25⟩, hv, hb⟩ := bnd hb
        have hJ : EvF mtab d k_X12_best 90 [some (.inr (.inr 187)), some (.inl p1), some (.inl l2_23), some (.inl l3_24), some (.inl l4_25), some (.inl l5_9), some (.inl l6_17), some (.inl x22)] [] (SH L0, D21) (some (.inl t0.1), (SH L0, t0.2)) := by
          cases hb
          exact ev_go 2 (pc' := 47) (L' := [some (.inr (.inr 187)), some (.inl p1), some (.inl l2_23), some (.inl l3_24), some (.inl l4_25), some (.inl l5_9), some (.inl (w32 (l6_17 + 1))), some (.inl x22)]) (S' := []) (σ' := (SH L0, D21)) (fun _ _ => rfl) (hK1 (some (.inl x22)))
        clear hb
        rcases ite_or hv with ⟨hc, hv⟩ | ⟨hc, hv⟩
        · refine ev_ift hc 4 (pc' := 80) (L' := [some (.inr (.inr 187)), some (.inl p1), some (.inl l2_14), some (.inl l3_15), some (.inl l4_16), some (.inl l5_9), some (.inl l6_17), some (.inl x22)]) (S' := []) (σ' := (SH L0, D21)) (fun _ _ => rfl) ?_
          have he0 := Option.some.inj hv
          obtain ⟨ha0, he1⟩ := Prod.mk.inj he0
          clear he0
          obtain ⟨ha1, he2⟩ := Prod.mk.inj he1
          clear he1
          subst ha0
          subst ha1
          subst he2
          exact ev_go 6 (pc' := 90) (L' := [some (.inr (.inr 187)), some (.inl p1), some (.inl x22), some (.inl l5_9), some (.inl l6_17), some (.inl l5_9), some (.inl l6_17), some (.inl x22)]) (S' := []) (σ' := (SH L0, D21)) (fun _ _ => rfl) hJ
        · refine ev_iff hc 4 (pc' := 77) (L' := [some (.inr (.inr 187)), some (.inl p1), some (.inl l2_14), some (.inl l3_15), some (.inl l4_16), some (.inl l5_9), some (.inl l6_17), some (.inl x22)]) (S' := []) (σ' := (SH L0, D21)) (fun _ _ => rfl) ?_
          have he0 := Option.some.inj hv
          obtain ⟨ha0, he1⟩ := Prod.mk.inj he0
          clear he0
          obtain ⟨ha1, he2⟩ := Prod.mk.inj he1
          clear he1
          subst ha0
          subst ha1
          subst he2
          exact ev_go 1 (pc' := 90) (L' := [some (.inr (.inr 187)), some (.inl p1), some (.inl l2_14), some (.inl l3_15), some (.inl l4_16), some (.inl l5_9), some (.inl l6_17), some (.inl x22)]) (S' := []) (σ' := (SH L0, D21)) (fun _ _ => rfl) hJ
      · refine ev_iff hc 1 (pc' := 96) (L' := [some (.inr (.inr 187)), some (.inl p1), some (.inl l2_14), some (.inl l3_15), some (.inl l4_16), some (.inl l5_9), some (.inl l6_17), dv o18]) (S' := []) (σ' := (SH L0, D19)) (fun _ _ => rfl) ?_
        cases hb
        exact hK1 (some (.inl l6_17)) o18
    · refine ev_iff hc 1 (pc' := 102) (L' := [some (.inr (.inr 187)), some (.inl p1), some (.inl l2_6), some (.inl l3_7), some (.inl l4_8), some (.inl l5_9), dv o10, dv o11]) (S' := []) (σ' := (SH L0, D12)) (fun _ _ => rfl) ?_
      cases hb
      exact hK0 (some (.inl l5_9)) o10 o11
set_option maxRecDepth 100000 in
set_option maxHeartbeats 4000000 in
theorem e_X12_enough (L0 d : Nat) (hd : 7 ≤ d) {p1 : Int} {D : DT} {t0 : (Int × DT)} (h : m_X12_enough p1 D = some t0) : Ret mtab d 285 [.inr (.inr 187), .inl p1] (SH L0, D) (some (.inl t0.1), (SH L0, t0.2)) := by
  obtain ⟨d, rfl⟩ : ∃ e, d = e + 1 := ⟨d - 1, by omega⟩
  refine Ret.of (code := k_X12_enough) (ml := 5) rfl ?_
  show EvF mtab d k_X12_enough 0 [some (.inr (.inr 187)), some (.inl p1), none, none, none] [] (SH L0, D) (some (.inl t0.1), (SH L0, t0.2))
  unfold m_X12_enough at h
  obtain ⟨x1, hx, h⟩ := bnd h
  refine ev_call (e_X12_isArc L0 d (by omega) hx) 7 (pc' := 11) (L' := [some (.inr (.inr 187)), some (.inl p1), none, none, none]) (S' := [.inr (.inr 187)]) (fun _ _ => rfl) ?_
  obtain ⟨t2, hv, h⟩ := bnd h
  have hJ : EvF mtab d k_X12_enough 19 [some (.inr (.inr 187)), some (.inl p1), none, none, none] [.inl t2, .inr (.inr 187)] (SH L0, dput D 187 3 0) (some (.inl t0.1), (SH L0, t0.2)) := by
    rcases ite_or h with ⟨hc, h⟩ | ⟨hc, h⟩
    · refine ev_ift hc 4 (pc' := 29) (L' := [some (.inr (.inr 187)), some (.inl p1), none, none, none]) (S' := []) (σ' := (SH L0, dput (dput D 187 3 0) 187 2 t2)) (fun _ _ => rfl) ?_
      cases h
      exact ev_ret 2 (fun _ _ => rfl)
    · refine ev_iff hc 4 (pc' := 31) (L' := [some (.inr (.inr 187)), some (.inl p1), none, none, none]) (S' := []) (σ' := (SH L0, dput (dput D 187 3 0) 187 2 t2)) (fun _ _ => rfl) ?_
      obtain ⟨x3, hx, h⟩ := bnd h
      refine ev_bind hx 6 (pc' := 41) (L' := fun x3 => [some (.inr (.inr 187)), some (.inl p1), none, none, none]) (S' := fun x3 => [.inl x3]) (σ' := fun x3 => (SH L0, dput (dput D 187 3 0) 187 2 t2)) (fun _ _ => rfl) ?_
      obtain ⟨r, hr, h⟩ := bnd h
      have hX : (fun (r : (Int × DT)) => ∀ (o13 : Option (Sum Int Nat)), EvF mtab d k_X12_enough 101 [some (.inr (.inr 187)), some (.inl p1), some (.inl x3), some (.inl r.1), dv o13] [] (SH L0, r.2) (some (.inl t0.1), (SH L0, t0.2))) r := by
        obtain ⟨l3_12, D14⟩ := r
        intro o13
        show EvF mtab d k_X12_enough 101 [some (.inr (.inr 187)), some (.inl p1), some (.inl x3), some (.inl l3_12), dv o13] [] (SH L0, D14) (some (.inl t0.1), (SH L0, t0.2))
        obtain ⟨D15, hx, h⟩ := bnd h
        refine ev_bind hx 7 (pc' := 112) (L' := fun D15 => [some (.inr (.inr 187)), some (.inl p1), some (.inl x3), some (.inl l3_12), dv o13]) (S' := fun D15 => []) (σ' := fun D15 => (SH L0, D15)) (fun _ _ => rfl) ?_
        rcases ite_or h with ⟨hc, h⟩ | ⟨hc, h⟩
        · refine ev_ift hc 2 (pc' := 116) (L' := [some (.inr (.inr 187)), some (.inl p1), some (.inl x3), some (.inl l3_12), dv o13]) (S' := []) (σ' := (SH L0, D15)) (fun _ _ => rfl) ?_
          obtain ⟨⟨x16, D17⟩, hx, h⟩ := bnd h
          refine ev_call (e_X12_refuse L0 d (by omega) hx) 3 (pc' := 121) (L' := [some (.inr (.inr 187)), some (.inl p1), some (.inl x3), some (.inl l3_12), dv o13]) (S' := []) (fun _ _ => rfl) ?_
          cases h
          exact ev_ret 2 (fun _ _ => rfl)
        · refine ev_iff hc 2 (pc' := 124) (L' := [some (.inr (.inr 187)), some (.inl p1), some (.inl x3), some (.inl l3_12), dv o13]) (S' := []) (σ' := (SH L0, D15)) (fun _ _ => rfl) ?_
          cases h
          exact ev_ret 2 (fun _ _ => rfl)
      clear h
      refine ev_go 5 (pc' := 47) (L' := [some (.inr (.inr 187)), some (.inl p1), some (.inl x3), some (.inl (-1)), some (.inl 0)]) (S' := []) (σ' := (SH L0, dput (dput D 187 3 0) 187 2 t2)) (fun _ _ => rfl) ?_
      refine loop_ind (P := fun s => EvF mtab d k_X12_enough 47 [some (.inr (.inr 187)), some (.inl p1), some (.inl x3), some (.inl s.1), some (.inl s.2.1)] [] (SH L0, s.2.2) (some (.inl t0.1), (SH L0, t0.2))) (X := fun r => ∀ (o13 : Option (Sum Int Nat)), EvF mtab d k_X12_enough 101 [some (.inr (.inr 187)), some (.inl p1), some (.inl x3), some (.inl r.1), dv o13] [] (SH L0, r.2) (some (.inl t0.1), (SH L0, t0.2))) hr hX ?_
      clear hr hX
      intro s t hb hK0
      obtain ⟨l3_4, l4_5, D6⟩ := s
      show EvF mtab d k_X12_enough 47 [some (.inr (.inr 187)), some (.inl p1), some (.inl x3), some (.inl l3_4), some (.inl l4_5)] [] (SH L0, D6) (some (.inl t0.1), (SH L0, t0.2))
      unfold b_X12_enough_47 at hb
      rcases ite_or hb with ⟨hc, hb⟩ | ⟨hc, hb⟩
      · refine ev_ift hc 3 (pc' := 101) (L' := [some (.inr (.inr 187)), some (.inl p1), some (.inl x3), some (.inl l3_4), some (.inl l4_5)]) (S' := []) (σ' := (SH L0, D6)) (fun _ _ => rfl) ?_
        cases hb
        exact hK0 (some (.inl l4_5))
      · refine ev_iff hc 3 (pc' := 55) (L' := [some (.inr (.inr 187)), some (.inl p1), some (.inl x3), some (.inl l3_4), some (.inl l4_5)]) (S' := []) (σ' := (SH L0, D6)) (fun _ _ => rfl) ?_
        rcases ite_or hb with ⟨hc, hb⟩ | ⟨hc, hb⟩
        · refine ev_ift hc 2 (pc' := 59) (L' := [some (.inr (.inr 187)), some (.inl p1), some (.inl x3), some (.inl l3_4), some (.inl l4_5)]) (S' := []) (σ' := (SH L0, D6)) (fun _ _ => rfl) ?_
          obtain ⟨D7, hx, hb⟩ := bnd hb
          refine ev_bind hx 7 (pc' := 71) (L' := fun D7 => [some (.inr (.inr 187)), some (.inl p1), some (.inl x3), some (.inl l3_4), some (.inl l4_5)]) (S' := fun D7 => []) (σ' := fun D7 => (SH L0, D7)) (fun _ _ => rfl) ?_
          obtain ⟨D8, hx, hb⟩ := bnd hb
          refine ev_call (e_X12_laysChained L0 d (by omega) hx) 2 (pc' := 75) (L' := [some (.inr (.inr 187)), some (.inl p1), some (.inl x3), some (.inl l3_4), some (.inl l4_5)]) (S' := []) (fun _ _ => rfl) ?_
          obtain ⟨D9, hx, hb⟩ := bnd hb
          refine ev_call (e_X12_brings L0 d (by omega) hx) 3 (pc' := 80) (L' := [some (.inr (.inr 187)), some (.inl p1), some (.inl x3), some (.inl l3_4), some (.inl l4_5)]) (S' := []) (fun _ _ => rfl) ?_
          obtain ⟨x10, hx, hb⟩ := bnd hb
          refine ev_call (e_X12_falls L0 d (by omega) hx) 3 (pc' := 85) (L' := [some (.inr (.inr 187)), some (.inl p1), some (.inl x3), some (.inl l3_4), some (.inl l4_5)]) (S' := []) (fun _ _ => rfl) ?_
          obtain ⟨t11, hv, hb⟩ := bnd hb
          have hJ : EvF mtab d k_X12_enough 94 [some (.inr (.inr 187)), some (.inl p1), some (.inl x3), some (.inl l3_4), some (.inl l4_5)] [.inl t11] (SH L0, D9) (some (.inl t0.1), (SH L0, t0.2)) := by
            cases hb
            exact ev_go 3 (pc' := 47) (L' := [some (.inr (.inr 187)), some (.inl p1), some (.inl x3), some (.inl t11), some (.inl (w32 (l4_5 + 100)))]) (S' := []) (σ' := (SH L0, D9)) (fun _ _ => rfl) hK0
          clear hb
          rcases ite_or hv with ⟨hc, hv⟩ | ⟨hc, hv⟩
          · refine ev_ift hc 1 (pc' := 93) (L' := [some (.inr (.inr 187)), some (.inl p1), some (.inl x3), some (.inl l3_4), some (.inl l4_5)]) (S' := []) (σ' := (SH L0, D9)) (fun _ _ => rfl) ?_
            have he0 := Option.some.inj hv
            subst he0
            exact ev_go 1 (pc' := 94) (L' := [some (.inr (.inr 187)), some (.inl p1), some (.inl x3), some (.inl l3_4), some (.inl l4_5)]) (S' := [.inl (-1)]) (σ' := (SH L0, D9)) (fun _ _ => rfl) hJ
          · refine ev_iff hc 1 (pc' := 88) (L' := [some (.inr (.inr 187)), some (.inl p1), some (.inl x3), some (.inl l3_4), some (.inl l4_5)]) (S' := []) (σ' := (SH L0, D9)) (fun _ _ => rfl) ?_
            have he0 := Option.some.inj hv
            subst he0
            exact ev_go 2 (pc' := 94) (L' := [some (.inr (.inr 187)), some (.inl p1), some (.inl x3), some (.inl l3_4), some (.inl l4_5)]) (S' := [.inl l4_5]) (σ' := (SH L0, D9)) (fun _ _ => rfl) hJ
        · refine ev_iff hc 2 (pc' := 101) (L' := [some (.inr (.inr 187)), some (.inl p1), some (.inl x3), some (.inl l3_4), some (.inl l4_5)]) (S' := []) (σ' := (SH L0, D6)) (fun _ _ => rfl) ?_
          cases hb
          exact hK0 (some (.inl l4_5))
  clear h
  rcases ite_or hv with ⟨hc, hv⟩ | ⟨hc, hv⟩
  · refine ev_ift hc 1 (pc' := 18) (L' := [some (.inr (.inr 187)), some (.inl p1), none, none, none]) (S' := [.inr (.inr 187)]) (σ' := (SH L0, dput D 187 3 0)) (fun _ _ => rfl) ?_
    have he0 := Option.some.inj hv
    subst he0
    exact ev_go 1 (pc' := 19) (L' := [some (.inr (.inr 187)), some (.inl p1), none, none, none]) (S' := [.inl 2, .inr (.inr 187)]) (σ' := (SH L0, dput D 187 3 0)) (fun _ _ => rfl) hJ
  · refine ev_iff hc 1 (pc' := 14) (L' := [some (.inr (.inr 187)), some (.inl p1), none, none, none]) (S' := [.inr (.inr 187)]) (σ' := (SH L0, dput D 187 3 0)) (fun _ _ => rfl) ?_
    have he0 := Option.some.inj hv
    subst he0
    exact ev_go 2 (pc' := 19) (L' := [some (.inr (.inr 187)), some (.inl p1), none, none, none]) (S' := [.inl 0, .inr (.inr 187)]) (σ' := (SH L0, dput D 187 3 0)) (fun _ _ => rfl) hJ
set_option maxRecDepth 100000 in
set_option maxHeartbeats 4000000 in
theorem e_L_law (L0 d : Nat) (hd : 14 ≤ d) {D : DT} {t0 : Int × DT} (h : m_L_law L0 D = some t0) : EvF mtab d k_L_law 16 [some (.inr (.inr 0)), some (.inr (.inr 2)), some (.inr (.inr 187)), none] [] (SH L0, D) (some (.inl t0.1), (SH L0, t0.2)) := by
  unfold m_L_law at h
  obtain ⟨r, hr, h⟩ := bnd h
  have hX : (fun (r : (DT ⊕ (DT ⊕ (DT ⊕ (DT ⊕ (DT ⊕ (DT ⊕ (DT ⊕ (DT ⊕ (DT ⊕ (DT ⊕ (DT ⊕ (DT ⊕ (DT ⊕ (DT ⊕ (DT ⊕ (DT ⊕ (DT ⊕ (DT ⊕ (DT ⊕ (DT ⊕ (DT ⊕ (DT ⊕ (DT ⊕ (DT ⊕ DT))))))))))))))))))))))))) => match r with | .inl r => (∀ (o186 : Option (Sum Int Nat)), EvF mtab d k_L_law 155 [some (.inr (.inr 0)), some (.inr (.inr 2)), some (.inr (.inr 187)), dv o186] [] (SH L0, r) (some (.inl t0.1), (SH L0, t0.2))) | .inr r => (match r with | .inl r => (∀ (o188 : Option (Sum Int Nat)), EvF mtab d k_L_law 218 [some (.inr (.inr 0)), some (.inr (.inr 2)), some (.inr (.inr 187)), dv o188] [] (SH L0, r) (some (.inl t0.1), (SH L0, t0.2))) | .inr r => (match r with | .inl r => (∀ (o190 : Option (Sum Int Nat)), EvF mtab d k_L_law 241 [some (.inr (.inr 0)), some (.inr (.inr 2)), some (.inr (.inr 187)), dv o190] [] (SH L0, r) (some (.inl t0.1), (SH L0, t0.2))) | .inr r => (match r with | .inl r => (∀ (o192 : Option (Sum Int Nat)), EvF mtab d k_L_law 264 [some (.inr (.inr 0)), some (.inr (.inr 2)), some (.inr (.inr 187)), dv o192] [] (SH L0, r) (some (.inl t0.1), (SH L0, t0.2))) | .inr r => (match r with | .inl r => (∀ (o194 : Option (Sum Int Nat)), EvF mtab d k_L_law 287 [some (.inr (.inr 0)), some (.inr (.inr 2)), some (.inr (.inr 187)), dv o194] [] (SH L0, r) (some (.inl t0.1), (SH L0, t0.2))) | .inr r => (match r with | .inl r => (∀ (o196 : Option (Sum Int Nat)), EvF mtab d k_L_law 320 [some (.inr (.inr 0)), some (.inr (.inr 2)), some (.inr (.inr 187)), dv o196] [] (SH L0, r) (some (.inl t0.1), (SH L0, t0.2))) | .inr r => (match r with | .inl r => (∀ (o198 : Option (Sum Int Nat)), EvF mtab d k_L_law 353 [some (.inr (.inr 0)), some (.inr (.inr 2)), some (.inr (.inr 187)), dv o198] [] (SH L0, r) (some (.inl t0.1), (SH L0, t0.2))) | .inr r => (match r with | .inl r => (∀ (o200 : Option (Sum Int Nat)), EvF mtab d k_L_law 386 [some (.inr (.inr 0)), some (.inr (.inr 2)), some (.inr (.inr 187)), dv o200] [] (SH L0, r) (some (.inl t0.1), (SH L0, t0.2))) | .inr r => (match r with | .inl r => (∀ (o202 : Option (Sum Int Nat)), EvF mtab d k_L_law 419 [some (.inr (.inr 0)), some (.inr (.inr 2)), some (.inr (.inr 187)), dv o202] [] (SH L0, r) (some (.inl t0.1), (SH L0, t0.2))) | .inr r => (match r with | .inl r => (∀ (o204 : Option (Sum Int Nat)), EvF mtab d k_L_law 452 [some (.inr (.inr 0)), some (.inr (.inr 2)), some (.inr (.inr 187)), dv o204] [] (SH L0, r) (some (.inl t0.1), (SH L0, t0.2))) | .inr r => (match r with | .inl r => (∀ (o206 : Option (Sum Int Nat)), EvF mtab d k_L_law 495 [some (.inr (.inr 0)), some (.inr (.inr 2)), some (.inr (.inr 187)), dv o206] [] (SH L0, r) (some (.inl t0.1), (SH L0, t0.2))) | .inr r => (match r with | .inl r => (∀ (o208 : Option (Sum Int Nat)), EvF mtab d k_L_law 528 [some (.inr (.inr 0)), some (.inr (.inr 2)), some (.inr (.inr 187)), dv o208] [] (SH L0, r) (some (.inl t0.1), (SH L0, t0.2))) | .inr r => (match r with | .inl r => (∀ (o210 : Option (Sum Int Nat)), EvF mtab d k_L_law 561 [some (.inr (.inr 0)), some (.inr (.inr 2)), some (.inr (.inr 187)), dv o210] [] (SH L0, r) (some (.inl t0.1), (SH L0, t0.2))) | .inr r => (match r with | .inl r => (∀ (o212 : Option (Sum Int Nat)), EvF mtab d k_L_law 594 [some (.inr (.inr 0)), some (.inr (.inr 2)), some (.inr (.inr 187)), dv o212] [] (SH L0, r) (some (.inl t0.1), (SH L0, t0.2))) | .inr r => (match r with | .inl r => (∀ (o214 : Option (Sum Int Nat)), EvF mtab d k_L_law 617 [some (.inr (.inr 0)), some (.inr (.inr 2)), some (.inr (.inr 187)), dv o214] [] (SH L0, r) (some (.inl t0.1), (SH L0, t0.2))) | .inr r => (match r with | .inl r => (∀ (o216 : Option (Sum Int Nat)), EvF mtab d k_L_law 680 [some (.inr (.inr 0)), some (.inr (.inr 2)), some (.inr (.inr 187)), dv o216] [] (SH L0, r) (some (.inl t0.1), (SH L0, t0.2))) | .inr r => (match r with | .inl r => (∀ (o218 : Option (Sum Int Nat)), EvF mtab d k_L_law 713 [some (.inr (.inr 0)), some (.inr (.inr 2)), some (.inr (.inr 187)), dv o218] [] (SH L0, r) (some (.inl t0.1), (SH L0, t0.2))) | .inr r => (match r with | .inl r => (∀ (o220 : Option (Sum Int Nat)), EvF mtab d k_L_law 746 [some (.inr (.inr 0)), some (.inr (.inr 2)), some (.inr (.inr 187)), dv o220] [] (SH L0, r) (some (.inl t0.1), (SH L0, t0.2))) | .inr r => (match r with | .inl r => (∀ (o222 : Option (Sum Int Nat)), EvF mtab d k_L_law 769 [some (.inr (.inr 0)), some (.inr (.inr 2)), some (.inr (.inr 187)), dv o222] [] (SH L0, r) (some (.inl t0.1), (SH L0, t0.2))) | .inr r => (match r with | .inl r => (∀ (o224 : Option (Sum Int Nat)), EvF mtab d k_L_law 802 [some (.inr (.inr 0)), some (.inr (.inr 2)), some (.inr (.inr 187)), dv o224] [] (SH L0, r) (some (.inl t0.1), (SH L0, t0.2))) | .inr r => (match r with | .inl r => (∀ (o226 : Option (Sum Int Nat)), EvF mtab d k_L_law 815 [some (.inr (.inr 0)), some (.inr (.inr 2)), some (.inr (.inr 187)), dv o226] [] (SH L0, r) (some (.inl t0.1), (SH L0, t0.2))) | .inr r => (match r with | .inl r => (∀ (o228 : Option (Sum Int Nat)), EvF mtab d k_L_law 848 [some (.inr (.inr 0)), some (.inr (.inr 2)), some (.inr (.inr 187)), dv o228] [] (SH L0, r) (some (.inl t0.1), (SH L0, t0.2))) | .inr r => (match r with | .inl r => (∀ (o230 : Option (Sum Int Nat)), EvF mtab d k_L_law 871 [some (.inr (.inr 0)), some (.inr (.inr 2)), some (.inr (.inr 187)), dv o230] [] (SH L0, r) (some (.inl t0.1), (SH L0, t0.2))) | .inr r => (match r with | .inl r => (∀ (o232 : Option (Sum Int Nat)), EvF mtab d k_L_law 894 [some (.inr (.inr 0)), some (.inr (.inr 2)), some (.inr (.inr 187)), dv o232] [] (SH L0, r) (some (.inl t0.1), (SH L0, t0.2))) | .inr r => (∀ (o234 : Option (Sum Int Nat)), EvF mtab d k_L_law 902 [some (.inr (.inr 0)), some (.inr (.inr 2)), some (.inr (.inr 187)), dv o234] [] (SH L0, r) (some (.inl t0.1), (SH L0, t0.2))))))))))))))))))))))))))) r := by
    rcases r with r | r
    · skip
      obtain ⟨D187, hre⟩ : ∃ q, q = r := ⟨r, rfl⟩
      subst hre
      intro o186
      show EvF mtab d k_L_law 155 [some (.inr (.inr 0)), some (.inr (.inr 2)), some (.inr (.inr 187)), dv o186] [] (SH L0, D187) (some (.inl t0.1), (SH L0, t0.2))
      cases h
      exact ev_ret 2 (fun _ _ => rfl)
    rcases r with r | r
    · skip
      obtain ⟨D189, hre⟩ : ∃ q, q = r := ⟨r, rfl⟩
      subst hre
      intro o188
      show EvF mtab d k_L_law 218 [some (.inr (.inr 0)), some (.inr (.inr 2)), some (.inr (.inr 187)), dv o188] [] (SH L0, D189) (some (.inl t0.1), (SH L0, t0.2))
      cases h
      exact ev_ret 2 (fun _ _ => rfl)
    rcases r with r | r
    · skip
      obtain ⟨D191, hre⟩ : ∃ q, q = r := ⟨r, rfl⟩
      subst hre
      intro o190
      show EvF mtab d k_L_law 241 [some (.inr (.inr 0)), some (.inr (.inr 2)), some (.inr (.inr 187)), dv o190] [] (SH L0, D191) (some (.inl t0.1), (SH L0, t0.2))
      cases h
      exact ev_ret 2 (fun _ _ => rfl)
    rcases r with r | r
    · skip
      obtain ⟨D193, hre⟩ : ∃ q, q = r := ⟨r, rfl⟩
      subst hre
      intro o192
      show EvF mtab d k_L_law 264 [some (.inr (.inr 0)), some (.inr (.inr 2)), some (.inr (.inr 187)), dv o192] [] (SH L0, D193) (some (.inl t0.1), (SH L0, t0.2))
      cases h
      exact ev_ret 2 (fun _ _ => rfl)
    rcases r with r | r
    · skip
      obtain ⟨D195, hre⟩ : ∃ q, q = r := ⟨r, rfl⟩
      subst hre
      intro o194
      show EvF mtab d k_L_law 287 [some (.inr (.inr 0)), some (.inr (.inr 2)), some (.inr (.inr 187)), dv o194] [] (SH L0, D195) (some (.inl t0.1), (SH L0, t0.2))
      cases h
      exact ev_ret 2 (fun _ _ => rfl)
    rcases r with r | r
    · skip
      obtain ⟨D197, hre⟩ : ∃ q, q = r := ⟨r, rfl⟩
      subst hre
      intro o196
      show EvF mtab d k_L_law 320 [some (.inr (.inr 0)), some (.inr (.inr 2)), some (.inr (.inr 187)), dv o196] [] (SH L0, D197) (some (.inl t0.1), (SH L0, t0.2))
      cases h
      exact ev_ret 2 (fun _ _ => rfl)
    rcases r with r | r
    · skip
      obtain ⟨D199, hre⟩ : ∃ q, q = r := ⟨r, rfl⟩
      subst hre
      intro o198
      show EvF mtab d k_L_law 353 [some (.inr (.inr 0)), some (.inr (.inr 2)), some (.inr (.inr 187)), dv o198] [] (SH L0, D199) (some (.inl t0.1), (SH L0, t0.2))
      cases h
      exact ev_ret 2 (fun _ _ => rfl)
    rcases r with r | r
    · skip
      obtain ⟨D201, hre⟩ : ∃ q, q = r := ⟨r, rfl⟩
      subst hre
      intro o200
      show EvF mtab d k_L_law 386 [some (.inr (.inr 0)), some (.inr (.inr 2)), some (.inr (.inr 187)), dv o200] [] (SH L0, D201) (some (.inl t0.1), (SH L0, t0.2))
      cases h
      exact ev_ret 2 (fun _ _ => rfl)
    rcases r with r | r
    · skip
      obtain ⟨D203, hre⟩ : ∃ q, q = r := ⟨r, rfl⟩
      subst hre
      intro o202
      show EvF mtab d k_L_law 419 [some (.inr (.inr 0)), some (.inr (.inr 2)), some (.inr (.inr 187)), dv o202] [] (SH L0, D203) (some (.inl t0.1), (SH L0, t0.2))
      cases h
      exact ev_ret 2 (fun _ _ => rfl)
    rcases r with r | r
    · skip
      obtain ⟨D205, hre⟩ : ∃ q, q = r := ⟨r, rfl⟩
      subst hre
      intro o204
      show EvF mtab d k_L_law 452 [some (.inr (.inr 0)), some (.inr (.inr 2)), some (.inr (.inr 187)), dv o204] [] (SH L0, D205) (some (.inl t0.1), (SH L0, t0.2))
      cases h
      exact ev_ret 2 (fun _ _ => rfl)
    rcases r with r | r
    · skip
      obtain ⟨D207, hre⟩ : ∃ q, q = r := ⟨r, rfl⟩
      subst hre
      intro o206
      show EvF mtab d k_L_law 495 [some (.inr (.inr 0)), some (.inr (.inr 2)), some (.inr (.inr 187)), dv o206] [] (SH L0, D207) (some (.inl t0.1), (SH L0, t0.2))
      cases h
      exact ev_ret 2 (fun _ _ => rfl)
    rcases r with r | r
    · skip
      obtain ⟨D209, hre⟩ : ∃ q, q = r := ⟨r, rfl⟩
      subst hre
      intro o208
      show EvF mtab d k_L_law 528 [some (.inr (.inr 0)), some (.inr (.inr 2)), some (.inr (.inr 187)), dv o208] [] (SH L0, D209) (some (.inl t0.1), (SH L0, t0.2))
      cases h
      exact ev_ret 2 (fun _ _ => rfl)
    rcases r with r | r
    · skip
      obtain ⟨D211, hre⟩ : ∃ q, q = r := ⟨r, rfl⟩
      subst hre
      intro o210
      show EvF mtab d k_L_law 561 [some (.inr (.inr 0)), some (.inr (.inr 2)), some (.inr (.inr 187)), dv o210] [] (SH L0, D211) (some (.inl t0.1), (SH L0, t0.2))
      cases h
      exact ev_ret 2 (fun _ _ => rfl)
    rcases r with r | r
    · skip
      obtain ⟨D213, hre⟩ : ∃ q, q = r := ⟨r, rfl⟩
      subst hre
      intro o212
      show EvF mtab d k_L_law 594 [some (.inr (.inr 0)), some (.inr (.inr 2)), some (.inr (.inr 187)), dv o212] [] (SH L0, D213) (some (.inl t0.1), (SH L0, t0.2))
      cases h
      exact ev_ret 2 (fun _ _ => rfl)
    rcases r with r | r
    · skip
      obtain ⟨D215, hre⟩ : ∃ q, q = r := ⟨r, rfl⟩
      subst hre
      intro o214
      show EvF mtab d k_L_law 617 [some (.inr (.inr 0)), some (.inr (.inr 2)), some (.inr (.inr 187)), dv o214] [] (SH L0, D215) (some (.inl t0.1), (SH L0, t0.2))
      cases h
      exact ev_ret 2 (fun _ _ => rfl)
    rcases r with r | r
    · skip
      obtain ⟨D217, hre⟩ : ∃ q, q = r := ⟨r, rfl⟩
      subst hre
      intro o216
      show EvF mtab d k_L_law 680 [some (.inr (.inr 0)), some (.inr (.inr 2)), some (.inr (.inr 187)), dv o216] [] (SH L0, D217) (some (.inl t0.1), (SH L0, t0.2))
      cases h
      exact ev_ret 2 (fun _ _ => rfl)
    rcases r with r | r
    · skip
      obtain ⟨D219, hre⟩ : ∃ q, q = r := ⟨r, rfl⟩
      subst hre
      intro o218
      show EvF mtab d k_L_law 713 [some (.inr (.inr 0)), some (.inr (.inr 2)), some (.inr (.inr 187)), dv o218] [] (SH L0, D219) (some (.inl t0.1), (SH L0, t0.2))
      cases h
      exact ev_ret 2 (fun _ _ => rfl)
    rcases r with r | r
    · skip
      obtain ⟨D221, hre⟩ : ∃ q, q = r := ⟨r, rfl⟩
      subst hre
      intro o220
      show EvF mtab d k_L_law 746 [some (.inr (.inr 0)), some (.inr (.inr 2)), some (.inr (.inr 187)), dv o220] [] (SH L0, D221) (some (.inl t0.1), (SH L0, t0.2))
      cases h
      exact ev_ret 2 (fun _ _ => rfl)
    rcases r with r | r
    · skip
      obtain ⟨D223, hre⟩ : ∃ q, q = r := ⟨r, rfl⟩
      subst hre
      intro o222
      show EvF mtab d k_L_law 769 [some (.inr (.inr 0)), some (.inr (.inr 2)), some (.inr (.inr 187)), dv o222] [] (SH L0, D223) (some (.inl t0.1), (SH L0, t0.2))
      cases h
      exact ev_ret 2 (fun _ _ => rfl)
    rcases r with r | r
    · skip
      obtain ⟨D225, hre⟩ : ∃ q, q = r := ⟨r, rfl⟩
      subst hre
      intro o224
      show EvF mtab d k_L_law 802 [some (.inr (.inr 0)), some (.inr (.inr 2)), some (.inr (.inr 187)), dv o224] [] (SH L0, D225) (some (.inl t0.1), (SH L0, t0.2))
      cases h
      exact ev_ret 2 (fun _ _ => rfl)
    rcases r with r | r
    · skip
      obtain ⟨D227, hre⟩ : ∃ q, q = r := ⟨r, rfl⟩
      subst hre
      intro o226
      show EvF mtab d k_L_law 815 [some (.inr (.inr 0)), some (.inr (.inr 2)), some (.inr (.inr 187)), dv o226] [] (SH L0, D227) (some (.inl t0.1), (SH L0, t0.2))
      cases h
      exact ev_ret 2 (fun _ _ => rfl)
    rcases r with r | r
    · skip
      obtain ⟨D229, hre⟩ : ∃ q, q = r := ⟨r, rfl⟩
      subst hre
      intro o228
      show EvF mtab d k_L_law 848 [some (.inr (.inr 0)), some (.inr (.inr 2)), some (.inr (.inr 187)), dv o228] [] (SH L0, D229) (some (.inl t0.1), (SH L0, t0.2))
      cases h
      exact ev_ret 2 (fun _ _ => rfl)
    rcases r with r | r
    · skip
      obtain ⟨D231, hre⟩ : ∃ q, q = r := ⟨r, rfl⟩
      subst hre
      intro o230
      show EvF mtab d k_L_law 871 [some (.inr (.inr 0)), some (.inr (.inr 2)), some (.inr (.inr 187)), dv o230] [] (SH L0, D231) (some (.inl t0.1), (SH L0, t0.2))
      cases h
      exact ev_ret 2 (fun _ _ => rfl)
    rcases r with r | r
    · skip
      obtain ⟨D233, hre⟩ : ∃ q, q = r := ⟨r, rfl⟩
      subst hre
      intro o232
      show EvF mtab d k_L_law 894 [some (.inr (.inr 0)), some (.inr (.inr 2)), some (.inr (.inr 187)), dv o232] [] (SH L0, D233) (some (.inl t0.1), (SH L0, t0.2))
      cases h
      exact ev_ret 2 (fun _ _ => rfl)
    obtain ⟨D235, hre⟩ : ∃ q, q = r := ⟨r, rfl⟩
    subst hre
    intro o234
    show EvF mtab d k_L_law 902 [some (.inr (.inr 0)), some (.inr (.inr 2)), some (.inr (.inr 187)), dv o234] [] (SH L0, D235) (some (.inl t0.1), (SH L0, t0.2))
    cases h
    exact ev_ret 2 (fun _ _ => rfl)
  clear h
  refine ev_go 2 (pc' := 18) (L' := [some (.inr (.inr 0)), some (.inr (.inr 2)), some (.inr (.inr 187)), some (.inl 0)]) (S' := []) (σ' := (SH L0, D)) (fun _ _ => rfl) ?_
  refine loop_ind (P := fun s => EvF mtab d k_L_law 18 [some (.inr (.inr 0)), some (.inr (.inr 2)), some (.inr (.inr 187)), some (.inl s.1)] [] (SH L0, s.2) (some (.inl t0.1), (SH L0, t0.2))) (X := fun r => match r with | .inl r => (∀ (o186 : Option (Sum Int Nat)), EvF mtab d k_L_law 155 [some (.inr (.inr 0)), some (.inr (.inr 2)), some (.inr (.inr 187)), dv o186] [] (SH L0, r) (some (.inl t0.1), (SH L0, t0.2))) | .inr r => (match r with | .inl r => (∀ (o188 : Option (Sum Int Nat)), EvF mtab d k_L_law 218 [some (.inr (.inr 0)), some (.inr (.inr 2)), some (.inr (.inr 187)), dv o188] [] (SH L0, r) (some (.inl t0.1), (SH L0, t0.2))) | .inr r => (match r with | .inl r => (∀ (o190 : Option (Sum Int Nat)), EvF mtab d k_L_law 241 [some (.inr (.inr 0)), some (.inr (.inr 2)), some (.inr (.inr 187)), dv o190] [] (SH L0, r) (some (.inl t0.1), (SH L0, t0.2))) | .inr r => (match r with | .inl r => (∀ (o192 : Option (Sum Int Nat)), EvF mtab d k_L_law 264 [some (.inr (.inr 0)), some (.inr (.inr 2)), some (.inr (.inr 187)), dv o192] [] (SH L0, r) (some (.inl t0.1), (SH L0, t0.2))) | .inr r => (match r with | .inl r => (∀ (o194 : Option (Sum Int Nat)), EvF mtab d k_L_law 287 [some (.inr (.inr 0)), some (.inr (.inr 2)), some (.inr (.inr 187)), dv o194] [] (SH L0, r) (some (.inl t0.1), (SH L0, t0.2))) | .inr r => (match r with | .inl r => (∀ (o196 : Option (Sum Int Nat)), EvF mtab d k_L_law 320 [some (.inr (.inr 0)), some (.inr (.inr 2)), some (.inr (.inr 187)), dv o196] [] (SH L0, r) (some (.inl t0.1), (SH L0, t0.2))) | .inr r => (match r with | .inl r => (∀ (o198 : Option (Sum Int Nat)), EvF mtab d k_L_law 353 [some (.inr (.inr 0)), some (.inr (.inr 2)), some (.inr (.inr 187)), dv o198] [] (SH L0, r) (some (.inl t0.1), (SH L0, t0.2))) | .inr r => (match r with | .inl r => (∀ (o200 : Option (Sum Int Nat)), EvF mtab d k_L_law 386 [some (.inr (.inr 0)), some (.inr (.inr 2)), some (.inr (.inr 187)), dv o200] [] (SH L0, r) (some (.inl t0.1), (SH L0, t0.2))) | .inr r => (match r with | .inl r => (∀ (o202 : Option (Sum Int Nat)), EvF mtab d k_L_law 419 [some (.inr (.inr 0)), some (.inr (.inr 2)), some (.inr (.inr 187)), dv o202] [] (SH L0, r) (some (.inl t0.1), (SH L0, t0.2))) | .inr r => (match r with | .inl r => (∀ (o204 : Option (Sum Int Nat)), EvF mtab d k_L_law 452 [some (.inr (.inr 0)), some (.inr (.inr 2)), some (.inr (.inr 187)), dv o204] [] (SH L0, r) (some (.inl t0.1), (SH L0, t0.2))) | .inr r => (match r with | .inl r => (∀ (o206 : Option (Sum Int Nat)), EvF mtab d k_L_law 495 [some (.inr (.inr 0)), some (.inr (.inr 2)), some (.inr (.inr 187)), dv o206] [] (SH L0, r) (some (.inl t0.1), (SH L0, t0.2))) | .inr r => (match r with | .inl r => (∀ (o208 : Option (Sum Int Nat)), EvF mtab d k_L_law 528 [some (.inr (.inr 0)), some (.inr (.inr 2)), some (.inr (.inr 187)), dv o208] [] (SH L0, r) (some (.inl t0.1), (SH L0, t0.2))) | .inr r => (match r with | .inl r => (∀ (o210 : Option (Sum Int Nat)), EvF mtab d k_L_law 561 [some (.inr (.inr 0)), some (.inr (.inr 2)), some (.inr (.inr 187)), dv o210] [] (SH L0, r) (some (.inl t0.1), (SH L0, t0.2))) | .inr r => (match r with | .inl r => (∀ (o212 : Option (Sum Int Nat)), EvF mtab d k_L_law 594 [some (.inr (.inr 0)), some (.inr (.inr 2)), some (.inr (.inr 187)), dv o212] [] (SH L0, r) (some (.inl t0.1), (SH L0, t0.2))) | .inr r => (match r with | .inl r => (∀ (o214 : Option (Sum Int Nat)), EvF mtab d k_L_law 617 [some (.inr (.inr 0)), some (.inr (.inr 2)), some (.inr (.inr 187)), dv o214] [] (SH L0, r) (some (.inl t0.1), (SH L0, t0.2))) | .inr r => (match r with | .inl r => (∀ (o216 : Option (Sum Int Nat)), EvF mtab d k_L_law 680 [some (.inr (.inr 0)), some (.inr (.inr 2)), some (.inr (.inr 187)), dv o216] [] (SH L0, r) (some (.inl t0.1), (SH L0, t0.2))) | .inr r => (match r with | .inl r => (∀ (o218 : Option (Sum Int Nat)), EvF mtab d k_L_law 713 [some (.inr (.inr 0)), some (.inr (.inr 2)), some (.inr (.inr 187)), dv o218] [] (SH L0, r) (some (.inl t0.1), (SH L0, t0.2))) | .inr r => (match r with | .inl r => (∀ (o220 : Option (Sum Int Nat)), EvF mtab d k_L_law 746 [some (.inr (.inr 0)), some (.inr (.inr 2)), some (.inr (.inr 187)), dv o220] [] (SH L0, r) (some (.inl t0.1), (SH L0, t0.2))) | .inr r => (match r with | .inl r => (∀ (o222 : Option (Sum Int Nat)), EvF mtab d k_L_law 769 [some (.inr (.inr 0)), some (.inr (.inr 2)), some (.inr (.inr 187)), dv o222] [] (SH L0, r) (some (.inl t0.1), (SH L0, t0.2))) | .inr r => (match r with | .inl r => (∀ (o224 : Option (Sum Int Nat)), EvF mtab d k_L_law 802 [some (.inr (.inr 0)), some (.inr (.inr 2)), some (.inr (.inr 187)), dv o224] [] (SH L0, r) (some (.inl t0.1), (SH L0, t0.2))) | .inr r => (match r with | .inl r => (∀ (o226 : Option (Sum Int Nat)), EvF mtab d k_L_law 815 [some (.inr (.inr 0)), some (.inr (.inr 2)), some (.inr (.inr 187)), dv o226] [] (SH L0, r) (some (.inl t0.1), (SH L0, t0.2))) | .inr r => (match r with | .inl r => (∀ (o228 : Option (Sum Int Nat)), EvF mtab d k_L_law 848 [some (.inr (.inr 0)), some (.inr (.inr 2)), some (.inr (.inr 187)), dv o228] [] (SH L0, r) (some (.inl t0.1), (SH L0, t0.2))) | .inr r => (match r with | .inl r => (∀ (o230 : Option (Sum Int Nat)), EvF mtab d k_L_law 871 [some (.inr (.inr 0)), some (.inr (.inr 2)), some (.inr (.inr 187)), dv o230] [] (SH L0, r) (some (.inl t0.1), (SH L0, t0.2))) | .inr r => (match r with | .inl r => (∀ (o232 : Option (Sum Int Nat)), EvF mtab d k_L_law 894 [some (.inr (.inr 0)), some (.inr (.inr 2)), some (.inr (.inr 187)), dv o232] [] (SH L0, r) (some (.inl t0.1), (SH L0, t0.2))) | .inr r => (∀ (o234 : Option (Sum Int Nat)), EvF mtab d k_L_law 902 [some (.inr (.inr 0)), some (.inr (.inr 2)), some (.inr (.inr 187)), dv o234] [] (SH L0, r) (some (.inl t0.1), (SH L0, t0.2))))))))))))))))))))))))))) hr hX ?_
  clear hr hX
  intro s t hb hK0
  obtain ⟨l3_1, D2⟩ := s
  show EvF mtab d k_L_law 18 [some (.inr (.inr 0)), some (.inr (.inr 2)), some (.inr (.inr 187)), some (.inl l3_1)] [] (SH L0, D2) (some (.inl t0.1), (SH L0, t0.2))
  unfold b_L_law_18 at hb
  rcases ite_or hb with ⟨hc, hb⟩ | ⟨hc, hb⟩
  · refine ev_ift hc 6 (pc' := 902) (L' := [some (.inr (.inr 0)), some (.inr (.inr 2)), some (.inr (.inr 187)), some (.inl l3_1)]) (S' := []) (σ' := (SH L0, D2)) (fun _ _ => rfl) ?_
    cases hb
    exact hK0 (some (.inl l3_1))
  · refine ev_iff hc 6 (pc' := 27) (L' := [some (.inr (.inr 0)), some (.inr (.inr 2)), some (.inr (.inr 187)), some (.inl l3_1)]) (S' := []) (σ' := (SH L0, D2)) (fun _ _ => rfl) ?_
    obtain ⟨x3, hx, hb⟩ := bnd hb
    refine ev_bind hx 3 (pc' := 30) (L' := fun x3 => [some (.inr (.inr 0)), some (.inr (.inr 2)), some (.inr (.inr 187)), some (.inl l3_1)]) (S' := fun x3 => [.inl x3]) (σ' := fun x3 => (SH L0, D2)) (fun _ _ => rfl) ?_
    rcases ite_or hb with ⟨hc0, hb⟩ | ⟨hc0, hb⟩
    · refine ev_tsw 3 (tgt := 144) (L' := [some (.inr (.inr 0)), some (.inr (.inr 2)), some (.inr (.inr 187)), some (.inl l3_1)]) (S' := []) (σ' := (SH L0, D2)) (fun _ _ => rfl) (fun g => by simp [tsw, hc0]) ?_
      obtain ⟨x4, hx, hb⟩ := bnd hb
      refine ev_call (e_X11_status L0 d (by omega) hx) 2 (pc' := 148) (L' := [some (.inr (.inr 0)), some (.inr (.inr 2)), some (.inr (.inr 187)), some (.inl l3_1)]) (S' := []) (fun _ _ => rfl) ?_
      obtain ⟨⟨x5, D6⟩, hx, hb⟩ := bnd hb
      refine ev_call (e_X12_status L0 d (by omega) hx) 2 (pc' := 152) (L' := [some (.inr (.inr 0)), some (.inr (.inr 2)), some (.inr (.inr 187)), some (.inl l3_1)]) (S' := [.inl x4]) (fun _ _ => rfl) ?_
      rcases ite_or hb with ⟨hc, hb⟩ | ⟨hc, hb⟩
      · refine ev_ift hc 1 (pc' := 896) (L' := [some (.inr (.inr 0)), some (.inr (.inr 2)), some (.inr (.inr 187)), some (.inl l3_1)]) (S' := []) (σ' := (SH L0, D6)) (fun _ _ => rfl) ?_
        cases hb
        exact ev_go 2 (pc' := 18) (L' := [some (.inr (.inr 0)), some (.inr (.inr 2)), some (.inr (.inr 187)), some (.inl (w32 (l3_1 + 6)))]) (S' := []) (σ' := (SH L0, D6)) (fun _ _ => rfl) hK0
      · refine ev_iff hc 1 (pc' := 155) (L' := [some (.inr (.inr 0)), some (.inr (.inr 2)), some (.inr (.inr 187)), some (.inl l3_1)]) (S' := []) (σ' := (SH L0, D6)) (fun _ _ => rfl) ?_
        cases hb
        exact hK0 (some (.inl l3_1))
    rcases ite_or hb with ⟨hc1, hb⟩ | ⟨hc1, hb⟩
    · refine ev_tsw 3 (tgt := 157) (L' := [some (.inr (.inr 0)), some (.inr (.inr 2)), some (.inr (.inr 187)), some (.inl l3_1)]) (S' := []) (σ' := (SH L0, D2)) (fun _ _ => rfl) (fun g => by simp [tsw, hc0, hc1]) ?_
      obtain ⟨x7, hx, hb⟩ := bnd hb
      refine ev_bind hx 6 (pc' := 163) (L' := fun x7 => [some (.inr (.inr 0)), some (.inr (.inr 2)), some (.inr (.inr 187)), some (.inl l3_1)]) (S' := fun x7 => [.inl x7, .inr (.inr 2)]) (σ' := fun x7 => (SH L0, D2)) (fun _ _ => rfl) ?_
      obtain ⟨x8, hx, hb⟩ := bnd hb
      refine ev_bind hx 5 (pc' := 168) (L' := fun x8 => [some (.inr (.inr 0)), some (.inr (.inr 2)), some (.inr (.inr 187)), some (.inl l3_1)]) (S' := fun x8 => [.inl x8, .inl x7, .inr (.inr 2)]) (σ' := fun x8 => (SH L0, D2)) (fun _ _ => rfl) ?_
      obtain ⟨x9, hx, hb⟩ := bnd hb
      refine ev_bind hx 5 (pc' := 173) (L' := fun x9 => [some (.inr (.inr 0)), some (.inr (.inr 2)), some (.inr (.inr 187)), some (.inl l3_1)]) (S' := fun x9 => [.inl x9, .inl x8, .inl x7, .inr (.inr 2)]) (σ' := fun x9 => (SH L0, D2)) (fun _ _ => rfl) ?_
      obtain ⟨x10, hx, hb⟩ := bnd hb
      refine ev_bind hx 5 (pc' := 178) (L' := fun x10 => [some (.inr (.inr 0)), some (.inr (.inr 2)), some (.inr (.inr 187)), some (.inl l3_1)]) (S' := fun x10 => [.inl x10, .inl x9, .inl x8, .inl x7, .inr (.inr 2)]) (σ' := fun x10 => (SH L0, D2)) (fun _ _ => rfl) ?_
      obtain ⟨x11, hx, hb⟩ := bnd hb
      refine ev_bind hx 5 (pc' := 183) (L' := fun x11 => [some (.inr (.inr 0)), some (.inr (.inr 2)), some (.inr (.inr 187)), some (.inl l3_1)]) (S' := fun x11 => [.inl x11, .inl x10, .inl x9, .inl x8, .inl x7, .inr (.inr 2)]) (σ' := fun x11 => (SH L0, D2)) (fun _ _ => rfl) ?_
      obtain ⟨⟨x12, D13⟩, hx, hb⟩ := bnd hb
      refine ev_call (e_X11_feed L0 d (by omega) hx) 1 (pc' := 186) (L' := [some (.inr (.inr 0)), some (.inr (.inr 2)), some (.inr (.inr 187)), some (.inl l3_1)]) (S' := []) (fun _ _ => rfl) ?_
      obtain ⟨x14, hx, hb⟩ := bnd hb
      refine ev_bind hx 6 (pc' := 192) (L' := fun x14 => [some (.inr (.inr 0)), some (.inr (.inr 2)), some (.inr (.inr 187)), some (.inl l3_1)]) (S' := fun x14 => [.inl x14, .inr (.inr 187), .inl x12]) (σ' := fun x14 => (SH L0, D13)) (fun _ _ => rfl) ?_
      obtain ⟨x15, hx, hb⟩ := bnd hb
      refine ev_bind hx 5 (pc' := 197) (L' := fun x15 => [some (.inr (.inr 0)), some (.inr (.inr 2)), some (.inr (.inr 187)), some (.inl l3_1)]) (S' := fun x15 => [.inl x15, .inl x14, .inr (.inr 187), .inl x12]) (σ' := fun x15 => (SH L0, D13)) (fun _ _ => rfl) ?_
      obtain ⟨x16, hx, hb⟩ := bnd hb
      refine ev_bind hx 5 (pc' := 202) (L' := fun x16 => [some (.inr (.inr 0)), some (.inr (.inr 2)), some (.inr (.inr 187)), some (.inl l3_1)]) (S' := fun x16 => [.inl x16, .inl x15, .inl x14, .inr (.inr 187), .inl x12]) (σ' := fun x16 => (SH L0, D13)) (fun _ _ => rfl) ?_
      obtain ⟨x17, hx, hb⟩ := bnd hb
      refine ev_bind hx 5 (pc' := 207) (L' := fun x17 => [some (.inr (.inr 0)), some (.inr (.inr 2)), some (.inr (.inr 187)), some (.inl l3_1)]) (S' := fun x17 => [.inl x17, .inl x16, .inl x15, .inl x14, .inr (.inr 187), .inl x12]) (σ' := fun x17 => (SH L0, D13)) (fun _ _ => rfl) ?_
      obtain ⟨x18, hx, hb⟩ := bnd hb
      refine ev_bind hx 5 (pc' := 212) (L' := fun x18 => [some (.inr (.inr 0)), some (.inr (.inr 2)), some (.inr (.inr 187)), some (.inl l3_1)]) (S' := fun x18 => [.inl x18, .inl x17, .inl x16, .inl x15, .inl x14, .inr (.inr 187), .inl x12]) (σ' := fun x18 => (SH L0, D13)) (fun _ _ => rfl) ?_
      obtain ⟨⟨x19, D20⟩, hx, hb⟩ := bnd hb
      refine ev_call (e_X12_feed L0 d (by omega) hx) 1 (pc' := 215) (L' := [some (.inr (.inr 0)), some (.inr (.inr 2)), some (.inr (.inr 187)), some (.inl l3_1)]) (S' := [.inl x12]) (fun _ _ => rfl) ?_
      rcases ite_or hb with ⟨hc, hb⟩ | ⟨hc, hb⟩
      · refine ev_ift hc 1 (pc' := 896) (L' := [some (.inr (.inr 0)), some (.inr (.inr 2)), some (.inr (.inr 187)), some (.inl l3_1)]) (S' := []) (σ' := (SH L0, D20)) (fun _ _ => rfl) ?_
        cases hb
        exact ev_go 2 (pc' := 18) (L' := [some (.inr (.inr 0)), some (.inr (.inr 2)), some (.inr (.inr 187)), some (.inl (w32 (l3_1 + 6)))]) (S' := []) (σ' := (SH L0, D20)) (fun _ _ => rfl) hK0
      · refine ev_iff hc 1 (pc' := 218) (L' := [some (.inr (.inr 0)), some (.inr (.inr 2)), some (.inr (.inr 187)), some (.inl l3_1)]) (S' := []) (σ' := (SH L0, D20)) (fun _ _ => rfl) ?_
        cases hb
        exact hK0 (some (.inl l3_1))
    rcases ite_or hb with ⟨hc2, hb⟩ | ⟨hc2, hb⟩
    · refine ev_tsw 3 (tgt := 220) (L' := [some (.inr (.inr 0)), some (.inr (.inr 2)), some (.inr (.inr 187)), some (.inl l3_1)]) (S' := []) (σ' := (SH L0, D2)) (fun _ _ => rfl) (fun g => by simp [tsw, hc0, hc1, hc2]) ?_
      obtain ⟨x21, hx, hb⟩ := bnd hb
      refine ev_bind hx 6 (pc' := 226) (L' := fun x21 => [some (.inr (.inr 0)), some (.inr (.inr 2)), some (.inr (.inr 187)), some (.inl l3_1)]) (S' := fun x21 => [.inl x21, .inr (.inr 2)]) (σ' := fun x21 => (SH L0, D2)) (fun _ _ => rfl) ?_
      obtain ⟨⟨x22, D23⟩, hx, hb⟩ := bnd hb
      refine ev_call (e_X11_load L0 d (by omega) hx) 1 (pc' := 229) (L' := [some (.inr (.inr 0)), some (.inr (.inr 2)), some (.inr (.inr 187)), some (.inl l3_1)]) (S' := []) (fun _ _ => rfl) ?_
      obtain ⟨x24, hx, hb⟩ := bnd hb
      refine ev_bind hx 6 (pc' := 235) (L' := fun x24 => [some (.inr (.inr 0)), some (.inr (.inr 2)), some (.inr (.inr 187)), some (.inl l3_1)]) (S' := fun x24 => [.inl x24, .inr (.inr 187), .inl x22]) (σ' := fun x24 => (SH L0, D23)) (fun _ _ => rfl) ?_
      obtain ⟨⟨x25, D26⟩, hx, hb⟩ := bnd hb
      refine ev_call (e_X12_load L0 d (by omega) hx) 1 (pc' := 238) (L' := [some (.inr (.inr 0)), some (.inr (.inr 2)), some (.inr (.inr 187)), some (.inl l3_1)]) (S' := [.inl x22]) (fun _ _ => rfl) ?_
      rcases ite_or hb with ⟨hc, hb⟩ | ⟨hc, hb⟩
      · refine ev_ift hc 1 (pc' := 896) (L' := [some (.inr (.inr 0)), some (.inr (.inr 2)), some (.inr (.inr 187)), some (.inl l3_1)]) (S' := []) (σ' := (SH L0, D26)) (fun _ _ => rfl) ?_
        cases hb
        exact ev_go 2 (pc' := 18) (L' := [some (.inr (.inr 0)), some (.inr (.inr 2)), some (.inr (.inr 187)), some (.inl (w32 (l3_1 + 6)))]) (S' := []) (σ' := (SH L0, D26)) (fun _ _ => rfl) hK0
      · refine ev_iff hc 1 (pc' := 241) (L' := [some (.inr (.inr 0)), some (.inr (.inr 2)), some (.inr (.inr 187)), some (.inl l3_1)]) (S' := []) (σ' := (SH L0, D26)) (fun _ _ => rfl) ?_
        cases hb
        exact hK0 (some (.inl l3_1))
    rcases ite_or hb with ⟨hc3, hb⟩ | ⟨hc3, hb⟩
    · refine ev_tsw 3 (tgt := 243) (L' := [some (.inr (.inr 0)), some (.inr (.inr 2)), some (.inr (.inr 187)), some (.inl l3_1)]) (S' := []) (σ' := (SH L0, D2)) (fun _ _ => rfl) (fun g => by simp [tsw, hc0, hc1, hc2, hc3]) ?_
      obtain ⟨x27, hx, hb⟩ := bnd hb
      refine ev_bind hx 6 (pc' := 249) (L' := fun x27 => [some (.inr (.inr 0)), some (.inr (.inr 2)), some (.inr (.inr 187)), some (.inl l3_1)]) (S' := fun x27 => [.inl x27, .inr (.inr 2)]) (σ' := fun x27 => (SH L0, D2)) (fun _ _ => rfl) ?_
      obtain ⟨x28, hx, hb⟩ := bnd hb
      refine ev_call (e_X11_fault L0 d (by omega) hx) 1 (pc' := 252) (L' := [some (.inr (.inr 0)), some (.inr (.inr 2)), some (.inr (.inr 187)), some (.inl l3_1)]) (S' := []) (fun _ _ => rfl) ?_
      obtain ⟨x29, hx, hb⟩ := bnd hb
      refine ev_bind hx 6 (pc' := 258) (L' := fun x29 => [some (.inr (.inr 0)), some (.inr (.inr 2)), some (.inr (.inr 187)), some (.inl l3_1)]) (S' := fun x29 => [.inl x29, .inr (.inr 187), .inl x28]) (σ' := fun x29 => (SH L0, D2)) (fun _ _ => rfl) ?_
      obtain ⟨⟨x30, D31⟩, hx, hb⟩ := bnd hb
      refine ev_call (e_X12_fault L0 d (by omega) hx) 1 (pc' := 261) (L' := [some (.inr (.inr 0)), some (.inr (.inr 2)), some (.inr (.inr 187)), some (.inl l3_1)]) (S' := [.inl x28]) (fun _ _ => rfl) ?_
      rcases ite_or hb with ⟨hc, hb⟩ | ⟨hc, hb⟩
      · refine ev_ift hc 1 (pc' := 896) (L' := [some (.inr (.inr 0)), some (.inr (.inr 2)), some (.inr (.inr 187)), some (.inl l3_1)]) (S' := []) (σ' := (SH L0, D31)) (fun _ _ => rfl) ?_
        cases hb
        exact ev_go 2 (pc' := 18) (L' := [some (.inr (.inr 0)), some (.inr (.inr 2)), some (.inr (.inr 187)), some (.inl (w32 (l3_1 + 6)))]) (S' := []) (σ' := (SH L0, D31)) (fun _ _ => rfl) hK0
      · refine ev_iff hc 1 (pc' := 264) (L' := [some (.inr (.inr 0)), some (.inr (.inr 2)), some (.inr (.inr 187)), some (.inl l3_1)]) (S' := []) (σ' := (SH L0, D31)) (fun _ _ => rfl) ?_
        cases hb
        exact hK0 (some (.inl l3_1))
    rcases ite_or hb with ⟨hc4, hb⟩ | ⟨hc4, hb⟩
    · refine ev_tsw 3 (tgt := 266) (L' := [some (.inr (.inr 0)), some (.inr (.inr 2)), some (.inr (.inr 187)), some (.inl l3_1)]) (S' := []) (σ' := (SH L0, D2)) (fun _ _ => rfl) (fun g => by simp [tsw, hc0, hc1, hc2, hc3, hc4]) ?_
      obtain ⟨x32, hx, hb⟩ := bnd hb
      refine ev_bind hx 6 (pc' := 272) (L' := fun x32 => [some (.inr (.inr 0)), some (.inr (.inr 2)), some (.inr (.inr 187)), some (.inl l3_1)]) (S' := fun x32 => [.inl x32, .inr (.inr 2)]) (σ' := fun x32 => (SH L0, D2)) (fun _ _ => rfl) ?_
      obtain ⟨⟨x33, D34⟩, hx, hb⟩ := bnd hb
      refine ev_call (e_X11_many L0 d (by omega) hx) 1 (pc' := 275) (L' := [some (.inr (.inr 0)), some (.inr (.inr 2)), some (.inr (.inr 187)), some (.inl l3_1)]) (S' := []) (fun _ _ => rfl) ?_
      obtain ⟨x35, hx, hb⟩ := bnd hb
      refine ev_bind hx 6 (pc' := 281) (L' := fun x35 => [some (.inr (.inr 0)), some (.inr (.inr 2)), some (.inr (.inr 187)), some (.inl l3_1)]) (S' := fun x35 => [.inl x35, .inr (.inr 187), .inl x33]) (σ' := fun x35 => (SH L0, D34)) (fun _ _ => rfl) ?_
      obtain ⟨⟨x36, D37⟩, hx, hb⟩ := bnd hb
      refine ev_call (e_X12_many L0 d (by omega) hx) 1 (pc' := 284) (L' := [some (.inr (.inr 0)), some (.inr (.inr 2)), some (.inr (.inr 187)), some (.inl l3_1)]) (S' := [.inl x33]) (fun _ _ => rfl) ?_
      rcases ite_or hb with ⟨hc, hb⟩ | ⟨hc, hb⟩
      · refine ev_ift hc 1 (pc' := 896) (L' := [some (.inr (.inr 0)), some (.inr (.inr 2)), some (.inr (.inr 187)), some (.inl l3_1)]) (S' := []) (σ' := (SH L0, D37)) (fun _ _ => rfl) ?_
        cases hb
        exact ev_go 2 (pc' := 18) (L' := [some (.inr (.inr 0)), some (.inr (.inr 2)), some (.inr (.inr 187)), some (.inl (w32 (l3_1 + 6)))]) (S' := []) (σ' := (SH L0, D37)) (fun _ _ => rfl) hK0
      · refine ev_iff hc 1 (pc' := 287) (L' := [some (.inr (.inr 0)), some (.inr (.inr 2)), some (.inr (.inr 187)), some (.inl l3_1)]) (S' := []) (σ' := (SH L0, D37)) (fun _ _ => rfl) ?_
        cases hb
        exact hK0 (some (.inl l3_1))
    rcases ite_or hb with ⟨hc5, hb⟩ | ⟨hc5, hb⟩
    · refine ev_tsw 3 (tgt := 289) (L' := [some (.inr (.inr 0)), some (.inr (.inr 2)), some (.inr (.inr 187)), some (.inl l3_1)]) (S' := []) (σ' := (SH L0, D2)) (fun _ _ => rfl) (fun g => by simp [tsw, hc0, hc1, hc2, hc3, hc4, hc5]) ?_
      obtain ⟨x38, hx, hb⟩ := bnd hb
      refine ev_bind hx 6 (pc' := 295) (L' := fun x38 => [some (.inr (.inr 0)), some (.inr (.inr 2)), some (.inr (.inr 187)), some (.inl l3_1)]) (S' := fun x38 => [.inl x38, .inr (.inr 2)]) (σ' := fun x38 => (SH L0, D2)) (fun _ _ => rfl) ?_
      obtain ⟨x39, hx, hb⟩ := bnd hb
      refine ev_bind hx 5 (pc' := 300) (L' := fun x39 => [some (.inr (.inr 0)), some (.inr (.inr 2)), some (.inr (.inr 187)), some (.inl l3_1)]) (S' := fun x39 => [.inl x39, .inl x38, .inr (.inr 2)]) (σ' := fun x39 => (SH L0, D2)) (fun _ _ => rfl) ?_
      obtain ⟨⟨x40, D41⟩, hx, hb⟩ := bnd hb
      refine ev_call (e_X11_function L0 d (by omega) hx) 1 (pc' := 303) (L' := [some (.inr (.inr 0)), some (.inr (.inr 2)), some (.inr (.inr 187)), some (.inl l3_1)]) (S' := []) (fun _ _ => rfl) ?_
      obtain ⟨x42, hx, hb⟩ := bnd hb
      refine ev_bind hx 6 (pc' := 309) (L' := fun x42 => [some (.inr (.inr 0)), some (.inr (.inr 2)), some (.inr (.inr 187)), some (.inl l3_1)]) (S' := fun x42 => [.inl x42, .inr (.inr 187), .inl x40]) (σ' := fun x42 => (SH L0, D41)) (fun _ _ => rfl) ?_
      obtain ⟨x43, hx, hb⟩ := bnd hb
      refine ev_bind hx 5 (pc' := 314) (L' := fun x43 => [some (.inr (.inr 0)), some (.inr (.inr 2)), some (.inr (.inr 187)), some (.inl l3_1)]) (S' := fun x43 => [.inl x43, .inl x42, .inr (.inr 187), .inl x40]) (σ' := fun x43 => (SH L0, D41)) (fun _ _ => rfl) ?_
      obtain ⟨⟨x44, D45⟩, hx, hb⟩ := bnd hb
      refine ev_call (e_X12_function L0 d (by omega) hx) 1 (pc' := 317) (L' := [some (.inr (.inr 0)), some (.inr (.inr 2)), some (.inr (.inr 187)), some (.inl l3_1)]) (S' := [.inl x40]) (fun _ _ => rfl) ?_
      rcases ite_or hb with ⟨hc, hb⟩ | ⟨hc, hb⟩
      · refine ev_ift hc 1 (pc' := 896) (L' := [some (.inr (.inr 0)), some (.inr (.inr 2)), some (.inr (.inr 187)), some (.inl l3_1)]) (S' := []) (σ' := (SH L0, D45)) (fun _ _ => rfl) ?_
        cases hb
        exact ev_go 2 (pc' := 18) (L' := [some (.inr (.inr 0)), some (.inr (.inr 2)), some (.inr (.inr 187)), some (.inl (w32 (l3_1 + 6)))]) (S' := []) (σ' := (SH L0, D45)) (fun _ _ => rfl) hK0
      · refine ev_iff hc 1 (pc' := 320) (L' := [some (.inr (.inr 0)), some (.inr (.inr 2)), some (.inr (.inr 187)), some (.inl l3_1)]) (S' := []) (σ' := (SH L0, D45)) (fun _ _ => rfl) ?_
        cases hb
        exact hK0 (some (.inl l3_1))
    rcases ite_or hb with ⟨hc6, hb⟩ | ⟨hc6, hb⟩
    · refine ev_tsw 3 (tgt := 322) (L' := [some (.inr (.inr 0)), some (.inr (.inr 2)), some (.inr (.inr 187)), some (.inl l3_1)]) (S' := []) (σ' := (SH L0, D2)) (fun _ _ => rfl) (fun g => by simp [tsw, hc0, hc1, hc2, hc3, hc4, hc5, hc6]) ?_
      obtain ⟨x46, hx, hb⟩ := bnd hb
      refine ev_bind hx 6 (pc' := 328) (L' := fun x46 => [some (.inr (.inr 0)), some (.inr (.inr 2)), some (.inr (.inr 187)), some (.inl l3_1)]) (S' := fun x46 => [.inl x46, .inr (.inr 2)]) (σ' := fun x46 => (SH L0, D2)) (fun _ _ => rfl) ?_
      obtain ⟨x47, hx, hb⟩ := bnd hb
      refine ev_bind hx 5 (pc' := 333) (L' := fun x47 => [some (.inr (.inr 0)), some (.inr (.inr 2)), some (.inr (.inr 187)), some (.inl l3_1)]) (S' := fun x47 => [.inl x47, .inl x46, .inr (.inr 2)]) (σ' := fun x47 => (SH L0, D2)) (fun _ _ => rfl) ?_
      obtain ⟨⟨x48, D49⟩, hx, hb⟩ := bnd hb
      refine ev_call (e_X11_block L0 d (by omega) hx) 1 (pc' := 336) (L' := [some (.inr (.inr 0)), some (.inr (.inr 2)), some (.inr (.inr 187)), some (.inl l3_1)]) (S' := []) (fun _ _ => rfl) ?_
      obtain ⟨x50, hx, hb⟩ := bnd hb
      refine ev_bind hx 6 (pc' := 342) (L' := fun x50 => [some (.inr (.inr 0)), some (.inr (.inr 2)), some (.inr (.inr 187)), some (.inl l3_1)]) (S' := fun x50 => [.inl x50, .inr (.inr 187), .inl x48]) (σ' := fun x50 => (SH L0, D49)) (fun _ _ => rfl) ?_
      obtain ⟨x51, hx, hb⟩ := bnd hb
      refine ev_bind hx 5 (pc' := 347) (L' := fun x51 => [some (.inr (.inr 0)), some (.inr (.inr 2)), some (.inr (.inr 187)), some (.inl l3_1)]) (S' := fun x51 => [.inl x51, .inl x50, .inr (.inr 187), .inl x48]) (σ' := fun x51 => (SH L0, D49)) (fun _ _ => rfl) ?_
      obtain ⟨⟨x52, D53⟩, hx, hb⟩ := bnd hb
      refine ev_call (e_X12_block L0 d (by omega) hx) 1 (pc' := 350) (L' := [some (.inr (.inr 0)), some (.inr (.inr 2)), some (.inr (.inr 187)), some (.inl l3_1)]) (S' := [.inl x48]) (fun _ _ => rfl) ?_
      rcases ite_or hb with ⟨hc, hb⟩ | ⟨hc, hb⟩
      · refine ev_ift hc 1 (pc' := 896) (L' := [some (.inr (.inr 0)), some (.inr (.inr 2)), some (.inr (.inr 187)), some (.inl l3_1)]) (S' := []) (σ' := (SH L0, D53)) (fun _ _ => rfl) ?_
        cases hb
        exact ev_go 2 (pc' := 18) (L' := [some (.inr (.inr 0)), some (.inr (.inr 2)), some (.inr (.inr 187)), some (.inl (w32 (l3_1 + 6)))]) (S' := []) (σ' := (SH L0, D53)) (fun _ _ => rfl) hK0
      · refine ev_iff hc 1 (pc' := 353) (L' := [some (.inr (.inr 0)), some (.inr (.inr 2)), some (.inr (.inr 187)), some (.inl l3_1)]) (S' := []) (σ' := (SH L0, D53)) (fun _ _ => rfl) ?_
        cases hb
        exact hK0 (some (.inl l3_1))
    rcases ite_or hb with ⟨hc7, hb⟩ | ⟨hc7, hb⟩
    · refine ev_tsw 3 (tgt := 355) (L' := [some (.inr (.inr 0)), some (.inr (.inr 2)), some (.inr (.inr 187)), some (.inl l3_1)]) (S' := []) (σ' := (SH L0, D2)) (fun _ _ => rfl) (fun g => by simp [tsw, hc0, hc1, hc2, hc3, hc4, hc5, hc6, hc7]) ?_
      obtain ⟨x54, hx, hb⟩ := bnd hb
      refine ev_bind hx 6 (pc' := 361) (L' := fun x54 => [some (.inr (.inr 0)), some (.inr (.inr 2)), some (.inr (.inr 187)), some (.inl l3_1)]) (S' := fun x54 => [.inl x54, .inr (.inr 2)]) (σ' := fun x54 => (SH L0, D2)) (fun _ _ => rfl) ?_
      obtain ⟨x55, hx, hb⟩ := bnd hb
      refine ev_bind hx 5 (pc' := 366) (L' := fun x55 => [some (.inr (.inr 0)), some (.inr (.inr 2)), some (.inr (.inr 187)), some (.inl l3_1)]) (S' := fun x55 => [.inl x55, .inl x54, .inr (.inr 2)]) (σ' := fun x55 => (SH L0, D2)) (fun _ _ => rfl) ?_
      obtain ⟨⟨x56, D57⟩, hx, hb⟩ := bnd hb
      refine ev_call (e_X11_arc L0 d (by omega) hx) 1 (pc' := 369) (L' := [some (.inr (.inr 0)), some (.inr (.inr 2)), some (.inr (.inr 187)), some (.inl l3_1)]) (S' := []) (fun _ _ => rfl) ?_
      obtain ⟨x58, hx, hb⟩ := bnd hb
      refine ev_bind hx 6 (pc' := 375) (L' := fun x58 => [some (.inr (.inr 0)), some (.inr (.inr 2)), some (.inr (.inr 187)), some (.inl l3_1)]) (S' := fun x58 => [.inl x58, .inr (.inr 187), .inl x56]) (σ' := fun x58 => (SH L0, D57)) (fun _ _ => rfl) ?_
      obtain ⟨x59, hx, hb⟩ := bnd hb
      refine ev_bind hx 5 (pc' := 380) (L' := fun x59 => [some (.inr (.inr 0)), some (.inr (.inr 2)), some (.inr (.inr 187)), some (.inl l3_1)]) (S' := fun x59 => [.inl x59, .inl x58, .inr (.inr 187), .inl x56]) (σ' := fun x59 => (SH L0, D57)) (fun _ _ => rfl) ?_
      obtain ⟨⟨x60, D61⟩, hx, hb⟩ := bnd hb
      refine ev_call (e_X12_arc L0 d (by omega) hx) 1 (pc' := 383) (L' := [some (.inr (.inr 0)), some (.inr (.inr 2)), some (.inr (.inr 187)), some (.inl l3_1)]) (S' := [.inl x56]) (fun _ _ => rfl) ?_
      rcases ite_or hb with ⟨hc, hb⟩ | ⟨hc, hb⟩
      · refine ev_ift hc 1 (pc' := 896) (L' := [some (.inr (.inr 0)), some (.inr (.inr 2)), some (.inr (.inr 187)), some (.inl l3_1)]) (S' := []) (σ' := (SH L0, D61)) (fun _ _ => rfl) ?_
        cases hb
        exact ev_go 2 (pc' := 18) (L' := [some (.inr (.inr 0)), some (.inr (.inr 2)), some (.inr (.inr 187)), some (.inl (w32 (l3_1 + 6)))]) (S' := []) (σ' := (SH L0, D61)) (fun _ _ => rfl) hK0
      · refine ev_iff hc 1 (pc' := 386) (L' := [some (.inr (.inr 0)), some (.inr (.inr 2)), some (.inr (.inr 187)), some (.inl l3_1)]) (S' := []) (σ' := (SH L0, D61)) (fun _ _ => rfl) ?_
        cases hb
        exact hK0 (some (.inl l3_1))
    rcases ite_or hb with ⟨hc8, hb⟩ | ⟨hc8, hb⟩
    · refine ev_tsw 3 (tgt := 388) (L' := [some (.inr (.inr 0)), some (.inr (.inr 2)), some (.inr (.inr 187)), some (.inl l3_1)]) (S' := []) (σ' := (SH L0, D2)) (fun _ _ => rfl) (fun g => by simp [tsw, hc0, hc1, hc2, hc3, hc4, hc5, hc6, hc7, hc8]) ?_
      obtain ⟨x62, hx, hb⟩ := bnd hb
      refine ev_bind hx 6 (pc' := 394) (L' := fun x62 => [some (.inr (.inr 0)), some (.inr (.inr 2)), some (.inr (.inr 187)), some (.inl l3_1)]) (S' := fun x62 => [.inl x62, .inr (.inr 2)]) (σ' := fun x62 => (SH L0, D2)) (fun _ _ => rfl) ?_
      obtain ⟨x63, hx, hb⟩ := bnd hb
      refine ev_bind hx 5 (pc' := 399) (L' := fun x63 => [some (.inr (.inr 0)), some (.inr (.inr 2)), some (.inr (.inr 187)), some (.inl l3_1)]) (S' := fun x63 => [.inl x63, .inl x62, .inr (.inr 2)]) (σ' := fun x63 => (SH L0, D2)) (fun _ _ => rfl) ?_
      obtain ⟨⟨x64, D65⟩, hx, hb⟩ := bnd hb
      refine ev_call (e_X11_weight L0 d (by omega) hx) 1 (pc' := 402) (L' := [some (.inr (.inr 0)), some (.inr (.inr 2)), some (.inr (.inr 187)), some (.inl l3_1)]) (S' := []) (fun _ _ => rfl) ?_
      obtain ⟨x66, hx, hb⟩ := bnd hb
      refine ev_bind hx 6 (pc' := 408) (L' := fun x66 => [some (.inr (.inr 0)), some (.inr (.inr 2)), some (.inr (.inr 187)), some (.inl l3_1)]) (S' := fun x66 => [.inl x66, .inr (.inr 187), .inl x64]) (σ' := fun x66 => (SH L0, D65)) (fun _ _ => rfl) ?_
      obtain ⟨x67, hx, hb⟩ := bnd hb
      refine ev_bind hx 5 (pc' := 413) (L' := fun x67 => [some (.inr (.inr 0)), some (.inr (.inr 2)), some (.inr (.inr 187)), some (.inl l3_1)]) (S' := fun x67 => [.inl x67, .inl x66, .inr (.inr 187), .inl x64]) (σ' := fun x67 => (SH L0, D65)) (fun _ _ => rfl) ?_
      obtain ⟨⟨x68, D69⟩, hx, hb⟩ := bnd hb
      refine ev_call (e_X12_weight L0 d (by omega) hx) 1 (pc' := 416) (L' := [some (.inr (.inr 0)), some (.inr (.inr 2)), some (.inr (.inr 187)), some (.inl l3_1)]) (S' := [.inl x64]) (fun _ _ => rfl) ?_
      rcases ite_or hb with ⟨hc, hb⟩ | ⟨hc, hb⟩
      · refine ev_ift hc 1 (pc' := 896) (L' := [some (.inr (.inr 0)), some (.inr (.inr 2)), some (.inr (.inr 187)), some (.inl l3_1)]) (S' := []) (σ' := (SH L0, D69)) (fun _ _ => rfl) ?_
        cases hb
        exact ev_go 2 (pc' := 18) (L' := [some (.inr (.inr 0)), some (.inr (.inr 2)), some (.inr (.inr 187)), some (.inl (w32 (l3_1 + 6)))]) (S' := []) (σ' := (SH L0, D69)) (fun _ _ => rfl) hK0
      · refine ev_iff hc 1 (pc' := 419) (L' := [some (.inr (.inr 0)), some (.inr (.inr 2)), some (.inr (.inr 187)), some (.inl l3_1)]) (S' := []) (σ' := (SH L0, D69)) (fun _ _ => rfl) ?_
        cases hb
        exact hK0 (some (.inl l3_1))
    rcases ite_or hb with ⟨hc9, hb⟩ | ⟨hc9, hb⟩
    · refine ev_tsw 3 (tgt := 421) (L' := [some (.inr (.inr 0)), some (.inr (.inr 2)), some (.inr (.inr 187)), some (.inl l3_1)]) (S' := []) (σ' := (SH L0, D2)) (fun _ _ => rfl) (fun g => by simp [tsw, hc0, hc1, hc2, hc3, hc4, hc5, hc6, hc7, hc8, hc9]) ?_
      obtain ⟨x70, hx, hb⟩ := bnd hb
      refine ev_bind hx 6 (pc' := 427) (L' := fun x70 => [some (.inr (.inr 0)), some (.inr (.inr 2)), some (.inr (.inr 187)), some (.inl l3_1)]) (S' := fun x70 => [.inl x70, .inr (.inr 2)]) (σ' := fun x70 => (SH L0, D2)) (fun _ _ => rfl) ?_
      obtain ⟨x71, hx, hb⟩ := bnd hb
      refine ev_bind hx 5 (pc' := 432) (L' := fun x71 => [some (.inr (.inr 0)), some (.inr (.inr 2)), some (.inr (.inr 187)), some (.inl l3_1)]) (S' := fun x71 => [.inl x71, .inl x70, .inr (.inr 2)]) (σ' := fun x71 => (SH L0, D2)) (fun _ _ => rfl) ?_
      obtain ⟨⟨x72, D73⟩, hx, hb⟩ := bnd hb
      refine ev_call (e_X11_order L0 d (by omega) hx) 1 (pc' := 435) (L' := [some (.inr (.inr 0)), some (.inr (.inr 2)), some (.inr (.inr 187)), some (.inl l3_1)]) (S' := []) (fun _ _ => rfl) ?_
      obtain ⟨x74, hx, hb⟩ := bnd hb
      refine ev_bind hx 6 (pc' := 441) (L' := fun x74 => [some (.inr (.inr 0)), some (.inr (.inr 2)), some (.inr (.inr 187)), some (.inl l3_1)]) (S' := fun x74 => [.inl x74, .inr (.inr 187), .inl x72]) (σ' := fun x74 => (SH L0, D73)) (fun _ _ => rfl) ?_
      obtain ⟨x75, hx, hb⟩ := bnd hb
      refine ev_bind hx 5 (pc' := 446) (L' := fun x75 => [some (.inr (.inr 0)), some (.inr (.inr 2)), some (.inr (.inr 187)), some (.inl l3_1)]) (S' := fun x75 => [.inl x75, .inl x74, .inr (.inr 187), .inl x72]) (σ' := fun x75 => (SH L0, D73)) (fun _ _ => rfl) ?_
      obtain ⟨⟨x76, D77⟩, hx, hb⟩ := bnd hb
      refine ev_call (e_X12_order L0 d (by omega) hx) 1 (pc' := 449) (L' := [some (.inr (.inr 0)), some (.inr (.inr 2)), some (.inr (.inr 187)), some (.inl l3_1)]) (S' := [.inl x72]) (fun _ _ => rfl) ?_
      rcases ite_or hb with ⟨hc, hb⟩ | ⟨hc, hb⟩
      · refine ev_ift hc 1 (pc' := 896) (L' := [some (.inr (.inr 0)), some (.inr (.inr 2)), some (.inr (.inr 187)), some (.inl l3_1)]) (S' := []) (σ' := (SH L0, D77)) (fun _ _ => rfl) ?_
        cases hb
        exact ev_go 2 (pc' := 18) (L' := [some (.inr (.inr 0)), some (.inr (.inr 2)), some (.inr (.inr 187)), some (.inl (w32 (l3_1 + 6)))]) (S' := []) (σ' := (SH L0, D77)) (fun _ _ => rfl) hK0
      · refine ev_iff hc 1 (pc' := 452) (L' := [some (.inr (.inr 0)), some (.inr (.inr 2)), some (.inr (.inr 187)), some (.inl l3_1)]) (S' := []) (σ' := (SH L0, D77)) (fun _ _ => rfl) ?_
        cases hb
        exact hK0 (some (.inl l3_1))
    rcases ite_or hb with ⟨hc10, hb⟩ | ⟨hc10, hb⟩
    · refine ev_tsw 3 (tgt := 454) (L' := [some (.inr (.inr 0)), some (.inr (.inr 2)), some (.inr (.inr 187)), some (.inl l3_1)]) (S' := []) (σ' := (SH L0, D2)) (fun _ _ => rfl) (fun g => by simp [tsw, hc0, hc1, hc2, hc3, hc4, hc5, hc6, hc7, hc8, hc9, hc10]) ?_
      obtain ⟨x78, hx, hb⟩ := bnd hb
      refine ev_bind hx 6 (pc' := 460) (L' := fun x78 => [some (.inr (.inr 0)), some (.inr (.inr 2)), some (.inr (.inr 187)), some (.inl l3_1)]) (S' := fun x78 => [.inl x78, .inr (.inr 2)]) (σ' := fun x78 => (SH L0, D2)) (fun _ _ => rfl) ?_
      obtain ⟨x79, hx, hb⟩ := bnd hb
      refine ev_bind hx 5 (pc' := 465) (L' := fun x79 => [some (.inr (.inr 0)), some (.inr (.inr 2)), some (.inr (.inr 187)), some (.inl l3_1)]) (S' := fun x79 => [.inl x79, .inl x78, .inr (.inr 2)]) (σ' := fun x79 => (SH L0, D2)) (fun _ _ => rfl) ?_
      obtain ⟨x80, hx, hb⟩ := bnd hb
      refine ev_bind hx 5 (pc' := 470) (L' := fun x80 => [some (.inr (.inr 0)), some (.inr (.inr 2)), some (.inr (.inr 187)), some (.inl l3_1)]) (S' := fun x80 => [.inl x80, .inl x79, .inl x78, .inr (.inr 2)]) (σ' := fun x80 => (SH L0, D2)) (fun _ _ => rfl) ?_
      obtain ⟨⟨x81, D82⟩, hx, hb⟩ := bnd hb
      refine ev_call (e_X11_place L0 d (by omega) hx) 1 (pc' := 473) (L' := [some (.inr (.inr 0)), some (.inr (.inr 2)), some (.inr (.inr 187)), some (.inl l3_1)]) (S' := []) (fun _ _ => rfl) ?_
      obtain ⟨x83, hx, hb⟩ := bnd hb
      refine ev_bind hx 6 (pc' := 479) (L' := fun x83 => [some (.inr (.inr 0)), some (.inr (.inr 2)), some (.inr (.inr 187)), some (.inl l3_1)]) (S' := fun x83 => [.inl x83, .inr (.inr 187), .inl x81]) (σ' := fun x83 => (SH L0, D82)) (fun _ _ => rfl) ?_
      obtain ⟨x84, hx, hb⟩ := bnd hb
      refine ev_bind hx 5 (pc' := 484) (L' := fun x84 => [some (.inr (.inr 0)), some (.inr (.inr 2)), some (.inr (.inr 187)), some (.inl l3_1)]) (S' := fun x84 => [.inl x84, .inl x83, .inr (.inr 187), .inl x81]) (σ' := fun x84 => (SH L0, D82)) (fun _ _ => rfl) ?_
      obtain ⟨x85, hx, hb⟩ := bnd hb
      refine ev_bind hx 5 (pc' := 489) (L' := fun x85 => [some (.inr (.inr 0)), some (.inr (.inr 2)), some (.inr (.inr 187)), some (.inl l3_1)]) (S' := fun x85 => [.inl x85, .inl x84, .inl x83, .inr (.inr 187), .inl x81]) (σ' := fun x85 => (SH L0, D82)) (fun _ _ => rfl) ?_
      obtain ⟨⟨x86, D87⟩, hx, hb⟩ := bnd hb
      refine ev_call (e_X12_place L0 d (by omega) hx) 1 (pc' := 492) (L' := [some (.inr (.inr 0)), some (.inr (.inr 2)), some (.inr (.inr 187)), some (.inl l3_1)]) (S' := [.inl x81]) (fun _ _ => rfl) ?_
      rcases ite_or hb with ⟨hc, hb⟩ | ⟨hc, hb⟩
      · refine ev_ift hc 1 (pc' := 896) (L' := [some (.inr (.inr 0)), some (.inr (.inr 2)), some (.inr (.inr 187)), some (.inl l3_1)]) (S' := []) (σ' := (SH L0, D87)) (fun _ _ => rfl) ?_
        cases hb
        exact ev_go 2 (pc' := 18) (L' := [some (.inr (.inr 0)), some (.inr (.inr 2)), some (.inr (.inr 187)), some (.inl (w32 (l3_1 + 6)))]) (S' := []) (σ' := (SH L0, D87)) (fun _ _ => rfl) hK0
      · refine ev_iff hc 1 (pc' := 495) (L' := [some (.inr (.inr 0)), some (.inr (.inr 2)), some (.inr (.inr 187)), some (.inl l3_1)]) (S' := []) (σ' := (SH L0, D87)) (fun _ _ => rfl) ?_
        cases hb
        exact hK0 (some (.inl l3_1))
    rcases ite_or hb with ⟨hc11, hb⟩ | ⟨hc11, hb⟩
    · refine ev_tsw 3 (tgt := 497) (L' := [some (.inr (.inr 0)), some (.inr (.inr 2)), some (.inr (.inr 187)), some (.inl l3_1)]) (S' := []) (σ' := (SH L0, D2)) (fun _ _ => rfl) (fun g => by simp [tsw, hc0, hc1, hc2, hc3, hc4, hc5, hc6, hc7, hc8, hc9, hc10, hc11]) ?_
      obtain ⟨x88, hx, hb⟩ := bnd hb
      refine ev_bind hx 6 (pc' := 503) (L' := fun x88 => [some (.inr (.inr 0)), some (.inr (.inr 2)), some (.inr (.inr 187)), some (.inl l3_1)]) (S' := fun x88 => [.inl x88, .inr (.inr 2)]) (σ' := fun x88 => (SH L0, D2)) (fun _ _ => rfl) ?_
      obtain ⟨x89, hx, hb⟩ := bnd hb
      refine ev_bind hx 5 (pc' := 508) (L' := fun x89 => [some (.inr (.inr 0)), some (.inr (.inr 2)), some (.inr (.inr 187)), some (.inl l3_1)]) (S' := fun x89 => [.inl x89, .inl x88, .inr (.inr 2)]) (σ' := fun x89 => (SH L0, D2)) (fun _ _ => rfl) ?_
      obtain ⟨⟨x90, D91⟩, hx, hb⟩ := bnd hb
      refine ev_call (e_X11_falls L0 d (by omega) hx) 1 (pc' := 511) (L' := [some (.inr (.inr 0)), some (.inr (.inr 2)), some (.inr (.inr 187)), some (.inl l3_1)]) (S' := []) (fun _ _ => rfl) ?_
      obtain ⟨x92, hx, hb⟩ := bnd hb
      refine ev_bind hx 6 (pc' := 517) (L' := fun x92 => [some (.inr (.inr 0)), some (.inr (.inr 2)), some (.inr (.inr 187)), some (.inl l3_1)]) (S' := fun x92 => [.inl x92, .inr (.inr 187), .inl x90]) (σ' := fun x92 => (SH L0, D91)) (fun _ _ => rfl) ?_
      obtain ⟨x93, hx, hb⟩ := bnd hb
      refine ev_bind hx 5 (pc' := 522) (L' := fun x93 => [some (.inr (.inr 0)), some (.inr (.inr 2)), some (.inr (.inr 187)), some (.inl l3_1)]) (S' := fun x93 => [.inl x93, .inl x92, .inr (.inr 187), .inl x90]) (σ' := fun x93 => (SH L0, D91)) (fun _ _ => rfl) ?_
      obtain ⟨⟨x94, D95⟩, hx, hb⟩ := bnd hb
      refine ev_call (e_X12_falls_ L0 d (by omega) hx) 1 (pc' := 525) (L' := [some (.inr (.inr 0)), some (.inr (.inr 2)), some (.inr (.inr 187)), some (.inl l3_1)]) (S' := [.inl x90]) (fun _ _ => rfl) ?_
      rcases ite_or hb with ⟨hc, hb⟩ | ⟨hc, hb⟩
      · refine ev_ift hc 1 (pc' := 896) (L' := [some (.inr (.inr 0)), some (.inr (.inr 2)), some (.inr (.inr 187)), some (.inl l3_1)]) (S' := []) (σ' := (SH L0, D95)) (fun _ _ => rfl) ?_
        cases hb
        exact ev_go 2 (pc' := 18) (L' := [some (.inr (.inr 0)), some (.inr (.inr 2)), some (.inr (.inr 187)), some (.inl (w32 (l3_1 + 6)))]) (S' := []) (σ' := (SH L0, D95)) (fun _ _ => rfl) hK0
      · refine ev_iff hc 1 (pc' := 528) (L' := [some (.inr (.inr 0)), some (.inr (.inr 2)), some (.inr (.inr 187)), some (.inl l3_1)]) (S' := []) (σ' := (SH L0, D95)) (fun _ _ => rfl) ?_
        cases hb
        exact hK0 (some (.inl l3_1))
    rcases ite_or hb with ⟨hc12, hb⟩ | ⟨hc12, hb⟩
    · refine ev_tsw 3 (tgt := 530) (L' := [some (.inr (.inr 0)), some (.inr (.inr 2)), some (.inr (.inr 187)), some (.inl l3_1)]) (S' := []) (σ' := (SH L0, D2)) (fun _ _ => rfl) (fun g => by simp [tsw, hc0, hc1, hc2, hc3, hc4, hc5, hc6, hc7, hc8, hc9, hc10, hc11, hc12]) ?_
      obtain ⟨x96, hx, hb⟩ := bnd hb
      refine ev_bind hx 6 (pc' := 536) (L' := fun x96 => [some (.inr (.inr 0)), some (.inr (.inr 2)), some (.inr (.inr 187)), some (.inl l3_1)]) (S' := fun x96 => [.inl x96, .inr (.inr 2)]) (σ' := fun x96 => (SH L0, D2)) (fun _ _ => rfl) ?_
      obtain ⟨x97, hx, hb⟩ := bnd hb
      refine ev_bind hx 5 (pc' := 541) (L' := fun x97 => [some (.inr (.inr 0)), some (.inr (.inr 2)), some (.inr (.inr 187)), some (.inl l3_1)]) (S' := fun x97 => [.inl x97, .inl x96, .inr (.inr 2)]) (σ' := fun x97 => (SH L0, D2)) (fun _ _ => rfl) ?_
      obtain ⟨⟨x98, D99⟩, hx, hb⟩ := bnd hb
      refine ev_call (e_X11_cost L0 d (by omega) hx) 1 (pc' := 544) (L' := [some (.inr (.inr 0)), some (.inr (.inr 2)), some (.inr (.inr 187)), some (.inl l3_1)]) (S' := []) (fun _ _ => rfl) ?_
      obtain ⟨x100, hx, hb⟩ := bnd hb
      refine ev_bind hx 6 (pc' := 550) (L' := fun x100 => [some (.inr (.inr 0)), some (.inr (.inr 2)), some (.inr (.inr 187)), some (.inl l3_1)]) (S' := fun x100 => [.inl x100, .inr (.inr 187), .inl x98]) (σ' := fun x100 => (SH L0, D99)) (fun _ _ => rfl) ?_
      obtain ⟨x101, hx, hb⟩ := bnd hb
      refine ev_bind hx 5 (pc' := 555) (L' := fun x101 => [some (.inr (.inr 0)), some (.inr (.inr 2)), some (.inr (.inr 187)), some (.inl l3_1)]) (S' := fun x101 => [.inl x101, .inl x100, .inr (.inr 187), .inl x98]) (σ' := fun x101 => (SH L0, D99)) (fun _ _ => rfl) ?_
      obtain ⟨⟨x102, D103⟩, hx, hb⟩ := bnd hb
      refine ev_call (e_X12_cost L0 d (by omega) hx) 1 (pc' := 558) (L' := [some (.inr (.inr 0)), some (.inr (.inr 2)), some (.inr (.inr 187)), some (.inl l3_1)]) (S' := [.inl x98]) (fun _ _ => rfl) ?_
      rcases ite_or hb with ⟨hc, hb⟩ | ⟨hc, hb⟩
      · refine ev_ift hc 1 (pc' := 896) (L' := [some (.inr (.inr 0)), some (.inr (.inr 2)), some (.inr (.inr 187)), some (.inl l3_1)]) (S' := []) (σ' := (SH L0, D103)) (fun _ _ => rfl) ?_
        cases hb
        exact ev_go 2 (pc' := 18) (L' := [some (.inr (.inr 0)), some (.inr (.inr 2)), some (.inr (.inr 187)), some (.inl (w32 (l3_1 + 6)))]) (S' := []) (σ' := (SH L0, D103)) (fun _ _ => rfl) hK0
      · refine ev_iff hc 1 (pc' := 561) (L' := [some (.inr (.inr 0)), some (.inr (.inr 2)), some (.inr (.inr 187)), some (.inl l3_1)]) (S' := []) (σ' := (SH L0, D103)) (fun _ _ => rfl) ?_
        cases hb
        exact hK0 (some (.inl l3_1))
    rcases ite_or hb with ⟨hc13, hb⟩ | ⟨hc13, hb⟩
    · refine ev_tsw 3 (tgt := 563) (L' := [some (.inr (.inr 0)), some (.inr (.inr 2)), some (.inr (.inr 187)), some (.inl l3_1)]) (S' := []) (σ' := (SH L0, D2)) (fun _ _ => rfl) (fun g => by simp [tsw, hc0, hc1, hc2, hc3, hc4, hc5, hc6, hc7, hc8, hc9, hc10, hc11, hc12, hc13]) ?_
      obtain ⟨x104, hx, hb⟩ := bnd hb
      refine ev_bind hx 6 (pc' := 569) (L' := fun x104 => [some (.inr (.inr 0)), some (.inr (.inr 2)), some (.inr (.inr 187)), some (.inl l3_1)]) (S' := fun x104 => [.inl x104, .inr (.inr 2)]) (σ' := fun x104 => (SH L0, D2)) (fun _ _ => rfl) ?_
      obtain ⟨x105, hx, hb⟩ := bnd hb
      refine ev_bind hx 5 (pc' := 574) (L' := fun x105 => [some (.inr (.inr 0)), some (.inr (.inr 2)), some (.inr (.inr 187)), some (.inl l3_1)]) (S' := fun x105 => [.inl x105, .inl x104, .inr (.inr 2)]) (σ' := fun x105 => (SH L0, D2)) (fun _ _ => rfl) ?_
      obtain ⟨⟨x106, D107⟩, hx, hb⟩ := bnd hb
      refine ev_call (e_X11_jumps L0 d (by omega) hx) 1 (pc' := 577) (L' := [some (.inr (.inr 0)), some (.inr (.inr 2)), some (.inr (.inr 187)), some (.inl l3_1)]) (S' := []) (fun _ _ => rfl) ?_
      obtain ⟨x108, hx, hb⟩ := bnd hb
      refine ev_bind hx 6 (pc' := 583) (L' := fun x108 => [some (.inr (.inr 0)), some (.inr (.inr 2)), some (.inr (.inr 187)), some (.inl l3_1)]) (S' := fun x108 => [.inl x108, .inr (.inr 187), .inl x106]) (σ' := fun x108 => (SH L0, D107)) (fun _ _ => rfl) ?_
      obtain ⟨x109, hx, hb⟩ := bnd hb
      refine ev_bind hx 5 (pc' := 588) (L' := fun x109 => [some (.inr (.inr 0)), some (.inr (.inr 2)), some (.inr (.inr 187)), some (.inl l3_1)]) (S' := fun x109 => [.inl x109, .inl x108, .inr (.inr 187), .inl x106]) (σ' := fun x109 => (SH L0, D107)) (fun _ _ => rfl) ?_
      obtain ⟨⟨x110, D111⟩, hx, hb⟩ := bnd hb
      refine ev_call (e_X12_jumps L0 d (by omega) hx) 1 (pc' := 591) (L' := [some (.inr (.inr 0)), some (.inr (.inr 2)), some (.inr (.inr 187)), some (.inl l3_1)]) (S' := [.inl x106]) (fun _ _ => rfl) ?_
      rcases ite_or hb with ⟨hc, hb⟩ | ⟨hc, hb⟩
      · refine ev_ift hc 1 (pc' := 896) (L' := [some (.inr (.inr 0)), some (.inr (.inr 2)), some (.inr (.inr 187)), some (.inl l3_1)]) (S' := []) (σ' := (SH L0, D111)) (fun _ _ => rfl) ?_
        cases hb
        exact ev_go 2 (pc' := 18) (L' := [some (.inr (.inr 0)), some (.inr (.inr 2)), some (.inr (.inr 187)), some (.inl (w32 (l3_1 + 6)))]) (S' := []) (σ' := (SH L0, D111)) (fun _ _ => rfl) hK0
      · refine ev_iff hc 1 (pc' := 594) (L' := [some (.inr (.inr 0)), some (.inr (.inr 2)), some (.inr (.inr 187)), some (.inl l3_1)]) (S' := []) (σ' := (SH L0, D111)) (fun _ _ => rfl) ?_
        cases hb
        exact hK0 (some (.inl l3_1))
    rcases ite_or hb with ⟨hc14, hb⟩ | ⟨hc14, hb⟩
    · refine ev_tsw 3 (tgt := 596) (L' := [some (.inr (.inr 0)), some (.inr (.inr 2)), some (.inr (.inr 187)), some (.inl l3_1)]) (S' := []) (σ' := (SH L0, D2)) (fun _ _ => rfl) (fun g => by simp [tsw, hc0, hc1, hc2, hc3, hc4, hc5, hc6, hc7, hc8, hc9, hc10, hc11, hc12, hc13, hc14]) ?_
      obtain ⟨x112, hx, hb⟩ := bnd hb
      refine ev_bind hx 6 (pc' := 602) (L' := fun x112 => [some (.inr (.inr 0)), some (.inr (.inr 2)), some (.inr (.inr 187)), some (.inl l3_1)]) (S' := fun x112 => [.inl x112, .inr (.inr 2)]) (σ' := fun x112 => (SH L0, D2)) (fun _ _ => rfl) ?_
      obtain ⟨⟨x113, D114⟩, hx, hb⟩ := bnd hb
      refine ev_call (e_X11_least L0 d (by omega) hx) 1 (pc' := 605) (L' := [some (.inr (.inr 0)), some (.inr (.inr 2)), some (.inr (.inr 187)), some (.inl l3_1)]) (S' := []) (fun _ _ => rfl) ?_
      obtain ⟨x115, hx, hb⟩ := bnd hb
      refine ev_bind hx 6 (pc' := 611) (L' := fun x115 => [some (.inr (.inr 0)), some (.inr (.inr 2)), some (.inr (.inr 187)), some (.inl l3_1)]) (S' := fun x115 => [.inl x115, .inr (.inr 187), .inl x113]) (σ' := fun x115 => (SH L0, D114)) (fun _ _ => rfl) ?_
      obtain ⟨⟨x116, D117⟩, hx, hb⟩ := bnd hb
      refine ev_call (e_X12_least L0 d (by omega) hx) 1 (pc' := 614) (L' := [some (.inr (.inr 0)), some (.inr (.inr 2)), some (.inr (.inr 187)), some (.inl l3_1)]) (S' := [.inl x113]) (fun _ _ => rfl) ?_
      rcases ite_or hb with ⟨hc, hb⟩ | ⟨hc, hb⟩
      · refine ev_ift hc 1 (pc' := 896) (L' := [some (.inr (.inr 0)), some (.inr (.inr 2)), some (.inr (.inr 187)), some (.inl l3_1)]) (S' := []) (σ' := (SH L0, D117)) (fun _ _ => rfl) ?_
        cases hb
        exact ev_go 2 (pc' := 18) (L' := [some (.inr (.inr 0)), some (.inr (.inr 2)), some (.inr (.inr 187)), some (.inl (w32 (l3_1 + 6)))]) (S' := []) (σ' := (SH L0, D117)) (fun _ _ => rfl) hK0
      · refine ev_iff hc 1 (pc' := 617) (L' := [some (.inr (.inr 0)), some (.inr (.inr 2)), some (.inr (.inr 187)), some (.inl l3_1)]) (S' := []) (σ' := (SH L0, D117)) (fun _ _ => rfl) ?_
        cases hb
        exact hK0 (some (.inl l3_1))
    rcases ite_or hb with ⟨hc15, hb⟩ | ⟨hc15, hb⟩
    · refine ev_tsw 3 (tgt := 619) (L' := [some (.inr (.inr 0)), some (.inr (.inr 2)), some (.inr (.inr 187)), some (.inl l3_1)]) (S' := []) (σ' := (SH L0, D2)) (fun _ _ => rfl) (fun g => by simp [tsw, hc0, hc1, hc2, hc3, hc4, hc5, hc6, hc7, hc8, hc9, hc10, hc11, hc12, hc13, hc14, hc15]) ?_
      obtain ⟨x118, hx, hb⟩ := bnd hb
      refine ev_bind hx 6 (pc' := 625) (L' := fun x118 => [some (.inr (.inr 0)), some (.inr (.inr 2)), some (.inr (.inr 187)), some (.inl l3_1)]) (S' := fun x118 => [.inl x118, .inr (.inr 2)]) (σ' := fun x118 => (SH L0, D2)) (fun _ _ => rfl) ?_
      obtain ⟨x119, hx, hb⟩ := bnd hb
      refine ev_bind hx 5 (pc' := 630) (L' := fun x119 => [some (.inr (.inr 0)), some (.inr (.inr 2)), some (.inr (.inr 187)), some (.inl l3_1)]) (S' := fun x119 => [.inl x119, .inl x118, .inr (.inr 2)]) (σ' := fun x119 => (SH L0, D2)) (fun _ _ => rfl) ?_
      obtain ⟨x120, hx, hb⟩ := bnd hb
      refine ev_bind hx 5 (pc' := 635) (L' := fun x120 => [some (.inr (.inr 0)), some (.inr (.inr 2)), some (.inr (.inr 187)), some (.inl l3_1)]) (S' := fun x120 => [.inl x120, .inl x119, .inl x118, .inr (.inr 2)]) (σ' := fun x120 => (SH L0, D2)) (fun _ _ => rfl) ?_
      obtain ⟨x121, hx, hb⟩ := bnd hb
      refine ev_bind hx 5 (pc' := 640) (L' := fun x121 => [some (.inr (.inr 0)), some (.inr (.inr 2)), some (.inr (.inr 187)), some (.inl l3_1)]) (S' := fun x121 => [.inl x121, .inl x120, .inl x119, .inl x118, .inr (.inr 2)]) (σ' := fun x121 => (SH L0, D2)) (fun _ _ => rfl) ?_
      obtain ⟨x122, hx, hb⟩ := bnd hb
      refine ev_bind hx 5 (pc' := 645) (L' := fun x122 => [some (.inr (.inr 0)), some (.inr (.inr 2)), some (.inr (.inr 187)), some (.inl l3_1)]) (S' := fun x122 => [.inl x122, .inl x121, .inl x120, .inl x119, .inl x118, .inr (.inr 2)]) (σ' := fun x122 => (SH L0, D2)) (fun _ _ => rfl) ?_
      obtain ⟨⟨x123, D124⟩, hx, hb⟩ := bnd hb
      refine ev_call (e_X11_run L0 d (by omega) hx) 1 (pc' := 648) (L' := [some (.inr (.inr 0)), some (.inr (.inr 2)), some (.inr (.inr 187)), some (.inl l3_1)]) (S' := []) (fun _ _ => rfl) ?_
      obtain ⟨x125, hx, hb⟩ := bnd hb
      refine ev_bind hx 6 (pc' := 654) (L' := fun x125 => [some (.inr (.inr 0)), some (.inr (.inr 2)), some (.inr (.inr 187)), some (.inl l3_1)]) (S' := fun x125 => [.inl x125, .inr (.inr 187), .inl x123]) (σ' := fun x125 => (SH L0, D124)) (fun _ _ => rfl) ?_
      obtain ⟨x126, hx, hb⟩ := bnd hb
      refine ev_bind hx 5 (pc' := 659) (L' := fun x126 => [some (.inr (.inr 0)), some (.inr (.inr 2)), some (.inr (.inr 187)), some (.inl l3_1)]) (S' := fun x126 => [.inl x126, .inl x125, .inr (.inr 187), .inl x123]) (σ' := fun x126 => (SH L0, D124)) (fun _ _ => rfl) ?_
      obtain ⟨x127, hx, hb⟩ := bnd hb
      refine ev_bind hx 5 (pc' := 664) (L' := fun x127 => [some (.inr (.inr 0)), some (.inr (.inr 2)), some (.inr (.inr 187)), some (.inl l3_1)]) (S' := fun x127 => [.inl x127, .inl x126, .inl x125, .inr (.inr 187), .inl x123]) (σ' := fun x127 => (SH L0, D124)) (fun _ _ => rfl) ?_
      obtain ⟨x128, hx, hb⟩ := bnd hb
      refine ev_bind hx 5 (pc' := 669) (L' := fun x128 => [some (.inr (.inr 0)), some (.inr (.inr 2)), some (.inr (.inr 187)), some (.inl l3_1)]) (S' := fun x128 => [.inl x128, .inl x127, .inl x126, .inl x125, .inr (.inr 187), .inl x123]) (σ' := fun x128 => (SH L0, D124)) (fun _ _ => rfl) ?_
      obtain ⟨x129, hx, hb⟩ := bnd hb
      refine ev_bind hx 5 (pc' := 674) (L' := fun x129 => [some (.inr (.inr 0)), some (.inr (.inr 2)), some (.inr (.inr 187)), some (.inl l3_1)]) (S' := fun x129 => [.inl x129, .inl x128, .inl x127, .inl x126, .inl x125, .inr (.inr 187), .inl x123]) (σ' := fun x129 => (SH L0, D124)) (fun _ _ => rfl) ?_
      obtain ⟨⟨x130, D131⟩, hx, hb⟩ := bnd hb
      refine ev_call (e_X12_run L0 d (by omega) hx) 1 (pc' := 677) (L' := [some (.inr (.inr 0)), some (.inr (.inr 2)), some (.inr (.inr 187)), some (.inl l3_1)]) (S' := [.inl x123]) (fun _ _ => rfl) ?_
      rcases ite_or hb with ⟨hc, hb⟩ | ⟨hc, hb⟩
      · refine ev_ift hc 1 (pc' := 896) (L' := [some (.inr (.inr 0)), some (.inr (.inr 2)), some (.inr (.inr 187)), some (.inl l3_1)]) (S' := []) (σ' := (SH L0, D131)) (fun _ _ => rfl) ?_
        cases hb
        exact ev_go 2 (pc' := 18) (L' := [some (.inr (.inr 0)), some (.inr (.inr 2)), some (.inr (.inr 187)), some (.inl (w32 (l3_1 + 6)))]) (S' := []) (σ' := (SH L0, D131)) (fun _ _ => rfl) hK0
      · refine ev_iff hc 1 (pc' := 680) (L' := [some (.inr (.inr 0)), some (.inr (.inr 2)), some (.inr (.inr 187)), some (.inl l3_1)]) (S' := []) (σ' := (SH L0, D131)) (fun _ _ => rfl) ?_
        cases hb
        exact hK0 (some (.inl l3_1))
    rcases ite_or hb with ⟨hc16, hb⟩ | ⟨hc16, hb⟩
    · refine ev_tsw 3 (tgt := 682) (L' := [some (.inr (.inr 0)), some (.inr (.inr 2)), some (.inr (.inr 187)), some (.inl l3_1)]) (S' := []) (σ' := (SH L0, D2)) (fun _ _ => rfl) (fun g => by simp [tsw, hc0, hc1, hc2, hc3, hc4, hc5, hc6, hc7, hc8, hc9, hc10, hc11, hc12, hc13, hc14, hc15, hc16]) ?_
      obtain ⟨x132, hx, hb⟩ := bnd hb
      refine ev_bind hx 6 (pc' := 688) (L' := fun x132 => [some (.inr (.inr 0)), some (.inr (.inr 2)), some (.inr (.inr 187)), some (.inl l3_1)]) (S' := fun x132 => [.inl x132, .inr (.inr 2)]) (σ' := fun x132 => (SH L0, D2)) (fun _ _ => rfl) ?_
      obtain ⟨x133, hx, hb⟩ := bnd hb
      refine ev_bind hx 5 (pc' := 693) (L' := fun x133 => [some (.inr (.inr 0)), some (.inr (.inr 2)), some (.inr (.inr 187)), some (.inl l3_1)]) (S' := fun x133 => [.inl x133, .inl x132, .inr (.inr 2)]) (σ' := fun x133 => (SH L0, D2)) (fun _ _ => rfl) ?_
      obtain ⟨⟨x134, D135⟩, hx, hb⟩ := bnd hb
      refine ev_call (e_X11_count L0 d (by omega) hx) 1 (pc' := 696) (L' := [some (.inr (.inr 0)), some (.inr (.inr 2)), some (.inr (.inr 187)), some (.inl l3_1)]) (S' := []) (fun _ _ => rfl) ?_
      obtain ⟨x136, hx, hb⟩ := bnd hb
      refine ev_bind hx 6 (pc' := 702) (L' := fun x136 => [some (.inr (.inr 0)), some (.inr (.inr 2)), some (.inr (.inr 187)), some (.inl l3_1)]) (S' := fun x136 => [.inl x136, .inr (.inr 187), .inl x134]) (σ' := fun x136 => (SH L0, D135)) (fun _ _ => rfl) ?_
      obtain ⟨x137, hx, hb⟩ := bnd hb
      refine ev_bind hx 5 (pc' := 707) (L' := fun x137 => [some (.inr (.inr 0)), some (.inr (.inr 2)), some (.inr (.inr 187)), some (.inl l3_1)]) (S' := fun x137 => [.inl x137, .inl x136, .inr (.inr 187), .inl x134]) (σ' := fun x137 => (SH L0, D135)) (fun _ _ => rfl) ?_
      obtain ⟨⟨x138, D139⟩, hx, hb⟩ := bnd hb
      refine ev_call (e_X12_count L0 d (by omega) hx) 1 (pc' := 710) (L' := [some (.inr (.inr 0)), some (.inr (.inr 2)), some (.inr (.inr 187)), some (.inl l3_1)]) (S' := [.inl x134]) (fun _ _ => rfl) ?_
      rcases ite_or hb with ⟨hc, hb⟩ | ⟨hc, hb⟩
      · refine ev_ift hc 1 (pc' := 896) (L' := [some (.inr (.inr 0)), some (.inr (.inr 2)), some (.inr (.inr 187)), some (.inl l3_1)]) (S' := []) (σ' := (SH L0, D139)) (fun _ _ => rfl) ?_
        cases hb
        exact ev_go 2 (pc' := 18) (L' := [some (.inr (.inr 0)), some (.inr (.inr 2)), some (.inr (.inr 187)), some (.inl (w32 (l3_1 + 6)))]) (S' := []) (σ' := (SH L0, D139)) (fun _ _ => rfl) hK0
      · refine ev_iff hc 1 (pc' := 713) (L' := [some (.inr (.inr 0)), some (.inr (.inr 2)), some (.inr (.inr 187)), some (.inl l3_1)]) (S' := []) (σ' := (SH L0, D139)) (fun _ _ => rfl) ?_
        cases hb
        exact hK0 (some (.inl l3_1))
    rcases ite_or hb with ⟨hc17, hb⟩ | ⟨hc17, hb⟩
    · refine ev_tsw 3 (tgt := 715) (L' := [some (.inr (.inr 0)), some (.inr (.inr 2)), some (.inr (.inr 187)), some (.inl l3_1)]) (S' := []) (σ' := (SH L0, D2)) (fun _ _ => rfl) (fun g => by simp [tsw, hc0, hc1, hc2, hc3, hc4, hc5, hc6, hc7, hc8, hc9, hc10, hc11, hc12, hc13, hc14, hc15, hc16, hc17]) ?_
      obtain ⟨x140, hx, hb⟩ := bnd hb
      refine ev_bind hx 6 (pc' := 721) (L' := fun x140 => [some (.inr (.inr 0)), some (.inr (.inr 2)), some (.inr (.inr 187)), some (.inl l3_1)]) (S' := fun x140 => [.inl x140, .inr (.inr 2)]) (σ' := fun x140 => (SH L0, D2)) (fun _ _ => rfl) ?_
      obtain ⟨x141, hx, hb⟩ := bnd hb
      refine ev_bind hx 5 (pc' := 726) (L' := fun x141 => [some (.inr (.inr 0)), some (.inr (.inr 2)), some (.inr (.inr 187)), some (.inl l3_1)]) (S' := fun x141 => [.inl x141, .inl x140, .inr (.inr 2)]) (σ' := fun x141 => (SH L0, D2)) (fun _ _ => rfl) ?_
      obtain ⟨⟨x142, D143⟩, hx, hb⟩ := bnd hb
      refine ev_call (e_X11_set L0 d (by omega) hx) 1 (pc' := 729) (L' := [some (.inr (.inr 0)), some (.inr (.inr 2)), some (.inr (.inr 187)), some (.inl l3_1)]) (S' := []) (fun _ _ => rfl) ?_
      obtain ⟨x144, hx, hb⟩ := bnd hb
      refine ev_bind hx 6 (pc' := 735) (L' := fun x144 => [some (.inr (.inr 0)), some (.inr (.inr 2)), some (.inr (.inr 187)), some (.inl l3_1)]) (S' := fun x144 => [.inl x144, .inr (.inr 187), .inl x142]) (σ' := fun x144 => (SH L0, D143)) (fun _ _ => rfl) ?_
      obtain ⟨x145, hx, hb⟩ := bnd hb
      refine ev_bind hx 5 (pc' := 740) (L' := fun x145 => [some (.inr (.inr 0)), some (.inr (.inr 2)), some (.inr (.inr 187)), some (.inl l3_1)]) (S' := fun x145 => [.inl x145, .inl x144, .inr (.inr 187), .inl x142]) (σ' := fun x145 => (SH L0, D143)) (fun _ _ => rfl) ?_
      obtain ⟨⟨x146, D147⟩, hx, hb⟩ := bnd hb
      refine ev_call (e_X12_set L0 d (by omega) hx) 1 (pc' := 743) (L' := [some (.inr (.inr 0)), some (.inr (.inr 2)), some (.inr (.inr 187)), some (.inl l3_1)]) (S' := [.inl x142]) (fun _ _ => rfl) ?_
      rcases ite_or hb with ⟨hc, hb⟩ | ⟨hc, hb⟩
      · refine ev_ift hc 1 (pc' := 896) (L' := [some (.inr (.inr 0)), some (.inr (.inr 2)), some (.inr (.inr 187)), some (.inl l3_1)]) (S' := []) (σ' := (SH L0, D147)) (fun _ _ => rfl) ?_
        cases hb
        exact ev_go 2 (pc' := 18) (L' := [some (.inr (.inr 0)), some (.inr (.inr 2)), some (.inr (.inr 187)), some (.inl (w32 (l3_1 + 6)))]) (S' := []) (σ' := (SH L0, D147)) (fun _ _ => rfl) hK0
      · refine ev_iff hc 1 (pc' := 746) (L' := [some (.inr (.inr 0)), some (.inr (.inr 2)), some (.inr (.inr 187)), some (.inl l3_1)]) (S' := []) (σ' := (SH L0, D147)) (fun _ _ => rfl) ?_
        cases hb
        exact hK0 (some (.inl l3_1))
    rcases ite_or hb with ⟨hc18, hb⟩ | ⟨hc18, hb⟩
    · refine ev_tsw 3 (tgt := 748) (L' := [some (.inr (.inr 0)), some (.inr (.inr 2)), some (.inr (.inr 187)), some (.inl l3_1)]) (S' := []) (σ' := (SH L0, D2)) (fun _ _ => rfl) (fun g => by simp [tsw, hc0, hc1, hc2, hc3, hc4, hc5, hc6, hc7, hc8, hc9, hc10, hc11, hc12, hc13, hc14, hc15, hc16, hc17, hc18]) ?_
      obtain ⟨x148, hx, hb⟩ := bnd hb
      refine ev_bind hx 6 (pc' := 754) (L' := fun x148 => [some (.inr (.inr 0)), some (.inr (.inr 2)), some (.inr (.inr 187)), some (.inl l3_1)]) (S' := fun x148 => [.inl x148, .inr (.inr 2)]) (σ' := fun x148 => (SH L0, D2)) (fun _ _ => rfl) ?_
      obtain ⟨⟨x149, D150⟩, hx, hb⟩ := bnd hb
      refine ev_call (e_X11_take L0 d (by omega) hx) 1 (pc' := 757) (L' := [some (.inr (.inr 0)), some (.inr (.inr 2)), some (.inr (.inr 187)), some (.inl l3_1)]) (S' := []) (fun _ _ => rfl) ?_
      obtain ⟨x151, hx, hb⟩ := bnd hb
      refine ev_bind hx 6 (pc' := 763) (L' := fun x151 => [some (.inr (.inr 0)), some (.inr (.inr 2)), some (.inr (.inr 187)), some (.inl l3_1)]) (S' := fun x151 => [.inl x151, .inr (.inr 187), .inl x149]) (σ' := fun x151 => (SH L0, D150)) (fun _ _ => rfl) ?_
      obtain ⟨⟨x152, D153⟩, hx, hb⟩ := bnd hb
      refine ev_call (e_X12_take L0 d (by omega) hx) 1 (pc' := 766) (L' := [some (.inr (.inr 0)), some (.inr (.inr 2)), some (.inr (.inr 187)), some (.inl l3_1)]) (S' := [.inl x149]) (fun _ _ => rfl) ?_
      rcases ite_or hb with ⟨hc, hb⟩ | ⟨hc, hb⟩
      · refine ev_ift hc 1 (pc' := 896) (L' := [some (.inr (.inr 0)), some (.inr (.inr 2)), some (.inr (.inr 187)), some (.inl l3_1)]) (S' := []) (σ' := (SH L0, D153)) (fun _ _ => rfl) ?_
        cases hb
        exact ev_go 2 (pc' := 18) (L' := [some (.inr (.inr 0)), some (.inr (.inr 2)), some (.inr (.inr 187)), some (.inl (w32 (l3_1 + 6)))]) (S' := []) (σ' := (SH L0, D153)) (fun _ _ => rfl) hK0
      · refine ev_iff hc 1 (pc' := 769) (L' := [some (.inr (.inr 0)), some (.inr (.inr 2)), some (.inr (.inr 187)), some (.inl l3_1)]) (S' := []) (σ' := (SH L0, D153)) (fun _ _ => rfl) ?_
        cases hb
        exact hK0 (some (.inl l3_1))
    rcases ite_or hb with ⟨hc19, hb⟩ | ⟨hc19, hb⟩
    · refine ev_tsw 3 (tgt := 771) (L' := [some (.inr (.inr 0)), some (.inr (.inr 2)), some (.inr (.inr 187)), some (.inl l3_1)]) (S' := []) (σ' := (SH L0, D2)) (fun _ _ => rfl) (fun g => by simp [tsw, hc0, hc1, hc2, hc3, hc4, hc5, hc6, hc7, hc8, hc9, hc10, hc11, hc12, hc13, hc14, hc15, hc16, hc17, hc18, hc19]) ?_
      obtain ⟨x154, hx, hb⟩ := bnd hb
      refine ev_bind hx 6 (pc' := 777) (L' := fun x154 => [some (.inr (.inr 0)), some (.inr (.inr 2)), some (.inr (.inr 187)), some (.inl l3_1)]) (S' := fun x154 => [.inl x154, .inr (.inr 2)]) (σ' := fun x154 => (SH L0, D2)) (fun _ _ => rfl) ?_
      obtain ⟨x155, hx, hb⟩ := bnd hb
      refine ev_bind hx 5 (pc' := 782) (L' := fun x155 => [some (.inr (.inr 0)), some (.inr (.inr 2)), some (.inr (.inr 187)), some (.inl l3_1)]) (S' := fun x155 => [.inl x155, .inl x154, .inr (.inr 2)]) (σ' := fun x155 => (SH L0, D2)) (fun _ _ => rfl) ?_
      obtain ⟨⟨x156, D157⟩, hx, hb⟩ := bnd hb
      refine ev_call (e_X11_move L0 d (by omega) hx) 1 (pc' := 785) (L' := [some (.inr (.inr 0)), some (.inr (.inr 2)), some (.inr (.inr 187)), some (.inl l3_1)]) (S' := []) (fun _ _ => rfl) ?_
      obtain ⟨x158, hx, hb⟩ := bnd hb
      refine ev_bind hx 6 (pc' := 791) (L' := fun x158 => [some (.inr (.inr 0)), some (.inr (.inr 2)), some (.inr (.inr 187)), some (.inl l3_1)]) (S' := fun x158 => [.inl x158, .inr (.inr 187), .inl x156]) (σ' := fun x158 => (SH L0, D157)) (fun _ _ => rfl) ?_
      obtain ⟨x159, hx, hb⟩ := bnd hb
      refine ev_bind hx 5 (pc' := 796) (L' := fun x159 => [some (.inr (.inr 0)), some (.inr (.inr 2)), some (.inr (.inr 187)), some (.inl l3_1)]) (S' := fun x159 => [.inl x159, .inl x158, .inr (.inr 187), .inl x156]) (σ' := fun x159 => (SH L0, D157)) (fun _ _ => rfl) ?_
      obtain ⟨⟨x160, D161⟩, hx, hb⟩ := bnd hb
      refine ev_call (e_X12_move L0 d (by omega) hx) 1 (pc' := 799) (L' := [some (.inr (.inr 0)), some (.inr (.inr 2)), some (.inr (.inr 187)), some (.inl l3_1)]) (S' := [.inl x156]) (fun _ _ => rfl) ?_
      rcases ite_or hb with ⟨hc, hb⟩ | ⟨hc, hb⟩
      · refine ev_ift hc 1 (pc' := 896) (L' := [some (.inr (.inr 0)), some (.inr (.inr 2)), some (.inr (.inr 187)), some (.inl l3_1)]) (S' := []) (σ' := (SH L0, D161)) (fun _ _ => rfl) ?_
        cases hb
        exact ev_go 2 (pc' := 18) (L' := [some (.inr (.inr 0)), some (.inr (.inr 2)), some (.inr (.inr 187)), some (.inl (w32 (l3_1 + 6)))]) (S' := []) (σ' := (SH L0, D161)) (fun _ _ => rfl) hK0
      · refine ev_iff hc 1 (pc' := 802) (L' := [some (.inr (.inr 0)), some (.inr (.inr 2)), some (.inr (.inr 187)), some (.inl l3_1)]) (S' := []) (σ' := (SH L0, D161)) (fun _ _ => rfl) ?_
        cases hb
        exact hK0 (some (.inl l3_1))
    rcases ite_or hb with ⟨hc20, hb⟩ | ⟨hc20, hb⟩
    · refine ev_tsw 3 (tgt := 804) (L' := [some (.inr (.inr 0)), some (.inr (.inr 2)), some (.inr (.inr 187)), some (.inl l3_1)]) (S' := []) (σ' := (SH L0, D2)) (fun _ _ => rfl) (fun g => by simp [tsw, hc0, hc1, hc2, hc3, hc4, hc5, hc6, hc7, hc8, hc9, hc10, hc11, hc12, hc13, hc14, hc15, hc16, hc17, hc18, hc19, hc20]) ?_
      obtain ⟨⟨x162, D163⟩, hx, hb⟩ := bnd hb
      refine ev_call (e_X11_undo L0 d (by omega) hx) 2 (pc' := 808) (L' := [some (.inr (.inr 0)), some (.inr (.inr 2)), some (.inr (.inr 187)), some (.inl l3_1)]) (S' := []) (fun _ _ => rfl) ?_
      obtain ⟨⟨x164, D165⟩, hx, hb⟩ := bnd hb
      refine ev_call (e_X12_undo L0 d (by omega) hx) 2 (pc' := 812) (L' := [some (.inr (.inr 0)), some (.inr (.inr 2)), some (.inr (.inr 187)), some (.inl l3_1)]) (S' := [.inl x162]) (fun _ _ => rfl) ?_
      rcases ite_or hb with ⟨hc, hb⟩ | ⟨hc, hb⟩
      · refine ev_ift hc 1 (pc' := 896) (L' := [some (.inr (.inr 0)), some (.inr (.inr 2)), some (.inr (.inr 187)), some (.inl l3_1)]) (S' := []) (σ' := (SH L0, D165)) (fun _ _ => rfl) ?_
        cases hb
        exact ev_go 2 (pc' := 18) (L' := [some (.inr (.inr 0)), some (.inr (.inr 2)), some (.inr (.inr 187)), some (.inl (w32 (l3_1 + 6)))]) (S' := []) (σ' := (SH L0, D165)) (fun _ _ => rfl) hK0
      · refine ev_iff hc 1 (pc' := 815) (L' := [some (.inr (.inr 0)), some (.inr (.inr 2)), some (.inr (.inr 187)), some (.inl l3_1)]) (S' := []) (σ' := (SH L0, D165)) (fun _ _ => rfl) ?_
        cases hb
        exact hK0 (some (.inl l3_1))
    rcases ite_or hb with ⟨hc21, hb⟩ | ⟨hc21, hb⟩
    · refine ev_tsw 3 (tgt := 817) (L' := [some (.inr (.inr 0)), some (.inr (.inr 2)), some (.inr (.inr 187)), some (.inl l3_1)]) (S' := []) (σ' := (SH L0, D2)) (fun _ _ => rfl) (fun g => by simp [tsw, hc0, hc1, hc2, hc3, hc4, hc5, hc6, hc7, hc8, hc9, hc10, hc11, hc12, hc13, hc14, hc15, hc16, hc17, hc18, hc19, hc20, hc21]) ?_
      obtain ⟨x166, hx, hb⟩ := bnd hb
      refine ev_bind hx 6 (pc' := 823) (L' := fun x166 => [some (.inr (.inr 0)), some (.inr (.inr 2)), some (.inr (.inr 187)), some (.inl l3_1)]) (S' := fun x166 => [.inl x166, .inr (.inr 2)]) (σ' := fun x166 => (SH L0, D2)) (fun _ _ => rfl) ?_
      obtain ⟨x167, hx, hb⟩ := bnd hb
      refine ev_bind hx 5 (pc' := 828) (L' := fun x167 => [some (.inr (.inr 0)), some (.inr (.inr 2)), some (.inr (.inr 187)), some (.inl l3_1)]) (S' := fun x167 => [.inl x167, .inl x166, .inr (.inr 2)]) (σ' := fun x167 => (SH L0, D2)) (fun _ _ => rfl) ?_
      obtain ⟨⟨x168, D169⟩, hx, hb⟩ := bnd hb
      refine ev_call (e_X11_moved L0 d (by omega) hx) 1 (pc' := 831) (L' := [some (.inr (.inr 0)), some (.inr (.inr 2)), some (.inr (.inr 187)), some (.inl l3_1)]) (S' := []) (fun _ _ => rfl) ?_
      obtain ⟨x170, hx, hb⟩ := bnd hb
      refine ev_bind hx 6 (pc' := 837) (L' := fun x170 => [some (.inr (.inr 0)), some (.inr (.inr 2)), some (.inr (.inr 187)), some (.inl l3_1)]) (S' := fun x170 => [.inl x170, .inr (.inr 187), .inl x168]) (σ' := fun x170 => (SH L0, D169)) (fun _ _ => rfl) ?_
      obtain ⟨x171, hx, hb⟩ := bnd hb
      refine ev_bind hx 5 (pc' := 842) (L' := fun x171 => [some (.inr (.inr 0)), some (.inr (.inr 2)), some (.inr (.inr 187)), some (.inl l3_1)]) (S' := fun x171 => [.inl x171, .inl x170, .inr (.inr 187), .inl x168]) (σ' := fun x171 => (SH L0, D169)) (fun _ _ => rfl) ?_
      obtain ⟨⟨x172, D173⟩, hx, hb⟩ := bnd hb
      refine ev_call (e_X12_moved L0 d (by omega) hx) 1 (pc' := 845) (L' := [some (.inr (.inr 0)), some (.inr (.inr 2)), some (.inr (.inr 187)), some (.inl l3_1)]) (S' := [.inl x168]) (fun _ _ => rfl) ?_
      rcases ite_or hb with ⟨hc, hb⟩ | ⟨hc, hb⟩
      · refine ev_ift hc 1 (pc' := 896) (L' := [some (.inr (.inr 0)), some (.inr (.inr 2)), some (.inr (.inr 187)), some (.inl l3_1)]) (S' := []) (σ' := (SH L0, D173)) (fun _ _ => rfl) ?_
        cases hb
        exact ev_go 2 (pc' := 18) (L' := [some (.inr (.inr 0)), some (.inr (.inr 2)), some (.inr (.inr 187)), some (.inl (w32 (l3_1 + 6)))]) (S' := []) (σ' := (SH L0, D173)) (fun _ _ => rfl) hK0
      · refine ev_iff hc 1 (pc' := 848) (L' := [some (.inr (.inr 0)), some (.inr (.inr 2)), some (.inr (.inr 187)), some (.inl l3_1)]) (S' := []) (σ' := (SH L0, D173)) (fun _ _ => rfl) ?_
        cases hb
        exact hK0 (some (.inl l3_1))
    rcases ite_or hb with ⟨hc22, hb⟩ | ⟨hc22, hb⟩
    · refine ev_tsw 3 (tgt := 850) (L' := [some (.inr (.inr 0)), some (.inr (.inr 2)), some (.inr (.inr 187)), some (.inl l3_1)]) (S' := []) (σ' := (SH L0, D2)) (fun _ _ => rfl) (fun g => by simp [tsw, hc0, hc1, hc2, hc3, hc4, hc5, hc6, hc7, hc8, hc9, hc10, hc11, hc12, hc13, hc14, hc15, hc16, hc17, hc18, hc19, hc20, hc21, hc22]) ?_
      obtain ⟨x174, hx, hb⟩ := bnd hb
      refine ev_bind hx 6 (pc' := 856) (L' := fun x174 => [some (.inr (.inr 0)), some (.inr (.inr 2)), some (.inr (.inr 187)), some (.inl l3_1)]) (S' := fun x174 => [.inl x174, .inr (.inr 2)]) (σ' := fun x174 => (SH L0, D2)) (fun _ _ => rfl) ?_
      obtain ⟨⟨x175, D176⟩, hx, hb⟩ := bnd hb
      refine ev_call (e_X11_best L0 d (by omega) hx) 1 (pc' := 859) (L' := [some (.inr (.inr 0)), some (.inr (.inr 2)), some (.inr (.inr 187)), some (.inl l3_1)]) (S' := []) (fun _ _ => rfl) ?_
      obtain ⟨x177, hx, hb⟩ := bnd hb
      refine ev_bind hx 6 (pc' := 865) (L' := fun x177 => [some (.inr (.inr 0)), some (.inr (.inr 2)), some (.inr (.inr 187)), some (.inl l3_1)]) (S' := fun x177 => [.inl x177, .inr (.inr 187), .inl x175]) (σ' := fun x177 => (SH L0, D176)) (fun _ _ => rfl) ?_
      obtain ⟨⟨x178, D179⟩, hx, hb⟩ := bnd hb
      refine ev_call (e_X12_best L0 d (by omega) hx) 1 (pc' := 868) (L' := [some (.inr (.inr 0)), some (.inr (.inr 2)), some (.inr (.inr 187)), some (.inl l3_1)]) (S' := [.inl x175]) (fun _ _ => rfl) ?_
      rcases ite_or hb with ⟨hc, hb⟩ | ⟨hc, hb⟩
      · refine ev_ift hc 1 (pc' := 896) (L' := [some (.inr (.inr 0)), some (.inr (.inr 2)), some (.inr (.inr 187)), some (.inl l3_1)]) (S' := []) (σ' := (SH L0, D179)) (fun _ _ => rfl) ?_
        cases hb
        exact ev_go 2 (pc' := 18) (L' := [some (.inr (.inr 0)), some (.inr (.inr 2)), some (.inr (.inr 187)), some (.inl (w32 (l3_1 + 6)))]) (S' := []) (σ' := (SH L0, D179)) (fun _ _ => rfl) hK0
      · refine ev_iff hc 1 (pc' := 871) (L' := [some (.inr (.inr 0)), some (.inr (.inr 2)), some (.inr (.inr 187)), some (.inl l3_1)]) (S' := []) (σ' := (SH L0, D179)) (fun _ _ => rfl) ?_
        cases hb
        exact hK0 (some (.inl l3_1))
    rcases ite_or hb with ⟨hc23, hb⟩ | ⟨hc23, hb⟩
    · refine ev_tsw 3 (tgt := 873) (L' := [some (.inr (.inr 0)), some (.inr (.inr 2)), some (.inr (.inr 187)), some (.inl l3_1)]) (S' := []) (σ' := (SH L0, D2)) (fun _ _ => rfl) (fun g => by simp [tsw, hc0, hc1, hc2, hc3, hc4, hc5, hc6, hc7, hc8, hc9, hc10, hc11, hc12, hc13, hc14, hc15, hc16, hc17, hc18, hc19, hc20, hc21, hc22, hc23]) ?_
      obtain ⟨x180, hx, hb⟩ := bnd hb
      refine ev_bind hx 6 (pc' := 879) (L' := fun x180 => [some (.inr (.inr 0)), some (.inr (.inr 2)), some (.inr (.inr 187)), some (.inl l3_1)]) (S' := fun x180 => [.inl x180, .inr (.inr 2)]) (σ' := fun x180 => (SH L0, D2)) (fun _ _ => rfl) ?_
      obtain ⟨⟨x181, D182⟩, hx, hb⟩ := bnd hb
      refine ev_call (e_X11_enough L0 d (by omega) hx) 1 (pc' := 882) (L' := [some (.inr (.inr 0)), some (.inr (.inr 2)), some (.inr (.inr 187)), some (.inl l3_1)]) (S' := []) (fun _ _ => rfl) ?_
      obtain ⟨x183, hx, hb⟩ := bnd hb
      refine ev_bind hx 6 (pc' := 888) (L' := fun x183 => [some (.inr (.inr 0)), some (.inr (.inr 2)), some (.inr (.inr 187)), some (.inl l3_1)]) (S' := fun x183 => [.inl x183, .inr (.inr 187), .inl x181]) (σ' := fun x183 => (SH L0, D182)) (fun _ _ => rfl) ?_
      obtain ⟨⟨x184, D185⟩, hx, hb⟩ := bnd hb
      refine ev_call (e_X12_enough L0 d (by omega) hx) 1 (pc' := 891) (L' := [some (.inr (.inr 0)), some (.inr (.inr 2)), some (.inr (.inr 187)), some (.inl l3_1)]) (S' := [.inl x181]) (fun _ _ => rfl) ?_
      rcases ite_or hb with ⟨hc, hb⟩ | ⟨hc, hb⟩
      · refine ev_ift hc 1 (pc' := 896) (L' := [some (.inr (.inr 0)), some (.inr (.inr 2)), some (.inr (.inr 187)), some (.inl l3_1)]) (S' := []) (σ' := (SH L0, D185)) (fun _ _ => rfl) ?_
        cases hb
        exact ev_go 2 (pc' := 18) (L' := [some (.inr (.inr 0)), some (.inr (.inr 2)), some (.inr (.inr 187)), some (.inl (w32 (l3_1 + 6)))]) (S' := []) (σ' := (SH L0, D185)) (fun _ _ => rfl) hK0
      · refine ev_iff hc 1 (pc' := 894) (L' := [some (.inr (.inr 0)), some (.inr (.inr 2)), some (.inr (.inr 187)), some (.inl l3_1)]) (S' := []) (σ' := (SH L0, D185)) (fun _ _ => rfl) ?_
        cases hb
        exact hK0 (some (.inl l3_1))
    refine ev_tsw 3 (tgt := 896) (L' := [some (.inr (.inr 0)), some (.inr (.inr 2)), some (.inr (.inr 187)), some (.inl l3_1)]) (S' := []) (σ' := (SH L0, D2)) (fun _ _ => rfl) (fun g => by simp [tsw, hc0, hc1, hc2, hc3, hc4, hc5, hc6, hc7, hc8, hc9, hc10, hc11, hc12, hc13, hc14, hc15, hc16, hc17, hc18, hc19, hc20, hc21, hc22, hc23]) ?_
    cases hb
    exact ev_go 2 (pc' := 18) (L' := [some (.inr (.inr 0)), some (.inr (.inr 2)), some (.inr (.inr 187)), some (.inl (w32 (l3_1 + 6)))]) (S' := []) (σ' := (SH L0, D2)) (fun _ _ => rfl) hK0
