set_option maxRecDepth 100000 in
set_option maxHeartbeats 4000000 in
theorem e_X7_clear (L0 d : Nat) (hd : 1 ≤ d) {D : DT} {t0 : DT} (h : m_X7_clear  D = some t0) : Ret mtab d 72 [.inr (.inr 19)] (SH L0, D) (none, (SH L0, t0)) := by
  obtain ⟨d, rfl⟩ : ∃ e, d = e + 1 := ⟨d - 1, by omega⟩
  refine Ret.of (code := k_X7_clear) (ml := 1) rfl ?_
  show EvF mtab d k_X7_clear 0 [some (.inr (.inr 19))] [] (SH L0, D) (none, (SH L0, t0))
  unfold m_X7_clear at h
  cases h
  exact ev_ret 22 (fun _ _ => rfl)
set_option maxRecDepth 100000 in
set_option maxHeartbeats 4000000 in
theorem e_X7_canBe (L0 d : Nat) (hd : 1 ≤ d) {p0 p1 : Int} {D : DT} {t0 : Int} (h : m_X7_canBe p0 p1 D = some t0) : Ret mtab d 74 [.inl p0, .inl p1] (SH L0, D) (some (.inl t0), (SH L0, D)) := by
  obtain ⟨d, rfl⟩ : ∃ e, d = e + 1 := ⟨d - 1, by omega⟩
  refine Ret.of (code := k_X7_canBe) (ml := 2) rfl ?_
  show EvF mtab d k_X7_canBe 0 [some (.inl p0), some (.inl p1)] [] (SH L0, D) (some (.inl t0), (SH L0, D))
  unfold m_X7_canBe at h
  rcases ite_or h with ⟨hc0, h⟩ | ⟨hc0, h⟩
  · refine ev_tsw 2 (tgt := 28) (L' := [some (.inl p0), some (.inl p1)]) (S' := []) (σ' := (SH L0, D)) (fun _ _ => rfl) (fun g => by simp [tsw, hc0]) ?_
    rcases ite_or h with ⟨hc, h⟩ | ⟨hc, h⟩
    · refine ev_ift hc 2 (pc' := 43) (L' := [some (.inl p0), some (.inl p1)]) (S' := []) (σ' := (SH L0, D)) (fun _ _ => rfl) ?_
      cases h
      exact ev_ret 2 (fun _ _ => rfl)
    · refine ev_iff hc 2 (pc' := 32) (L' := [some (.inl p0), some (.inl p1)]) (S' := []) (σ' := (SH L0, D)) (fun _ _ => rfl) ?_
      rcases ite_or h with ⟨hc, h⟩ | ⟨hc, h⟩
      · refine ev_ift hc 3 (pc' := 43) (L' := [some (.inl p0), some (.inl p1)]) (S' := []) (σ' := (SH L0, D)) (fun _ _ => rfl) ?_
        cases h
        exact ev_ret 2 (fun _ _ => rfl)
      · refine ev_iff hc 3 (pc' := 39) (L' := [some (.inl p0), some (.inl p1)]) (S' := []) (σ' := (SH L0, D)) (fun _ _ => rfl) ?_
        cases h
        exact ev_ret 3 (fun _ _ => rfl)
  rcases ite_or h with ⟨hc1, h⟩ | ⟨hc1, h⟩
  · refine ev_tsw 2 (tgt := 45) (L' := [some (.inl p0), some (.inl p1)]) (S' := []) (σ' := (SH L0, D)) (fun _ _ => rfl) (fun g => by simp [tsw, hc0, hc1]) ?_
    rcases ite_or h with ⟨hc, h⟩ | ⟨hc, h⟩
    · refine ev_ift hc 3 (pc' := 62) (L' := [some (.inl p0), some (.inl p1)]) (S' := []) (σ' := (SH L0, D)) (fun _ _ => rfl) ?_
      cases h
      exact ev_ret 2 (fun _ _ => rfl)
    · refine ev_iff hc 3 (pc' := 51) (L' := [some (.inl p0), some (.inl p1)]) (S' := []) (σ' := (SH L0, D)) (fun _ _ => rfl) ?_
      rcases ite_or h with ⟨hc, h⟩ | ⟨hc, h⟩
      · refine ev_ift hc 3 (pc' := 62) (L' := [some (.inl p0), some (.inl p1)]) (S' := []) (σ' := (SH L0, D)) (fun _ _ => rfl) ?_
        cases h
        exact ev_ret 2 (fun _ _ => rfl)
      · refine ev_iff hc 3 (pc' := 58) (L' := [some (.inl p0), some (.inl p1)]) (S' := []) (σ' := (SH L0, D)) (fun _ _ => rfl) ?_
        cases h
        exact ev_ret 3 (fun _ _ => rfl)
  rcases ite_or h with ⟨hc2, h⟩ | ⟨hc2, h⟩
  · refine ev_tsw 2 (tgt := 64) (L' := [some (.inl p0), some (.inl p1)]) (S' := []) (σ' := (SH L0, D)) (fun _ _ => rfl) (fun g => by simp [tsw, hc0, hc1, hc2]) ?_
    rcases ite_or h with ⟨hc, h⟩ | ⟨hc, h⟩
    · refine ev_ift hc 3 (pc' := 79) (L' := [some (.inl p0), some (.inl p1)]) (S' := []) (σ' := (SH L0, D)) (fun _ _ => rfl) ?_
      cases h
      exact ev_ret 2 (fun _ _ => rfl)
    · refine ev_iff hc 3 (pc' := 69) (L' := [some (.inl p0), some (.inl p1)]) (S' := []) (σ' := (SH L0, D)) (fun _ _ => rfl) ?_
      rcases ite_or h with ⟨hc, h⟩ | ⟨hc, h⟩
      · refine ev_ift hc 3 (pc' := 79) (L' := [some (.inl p0), some (.inl p1)]) (S' := []) (σ' := (SH L0, D)) (fun _ _ => rfl) ?_
        cases h
        exact ev_ret 2 (fun _ _ => rfl)
      · refine ev_iff hc 3 (pc' := 75) (L' := [some (.inl p0), some (.inl p1)]) (S' := []) (σ' := (SH L0, D)) (fun _ _ => rfl) ?_
        cases h
        exact ev_ret 3 (fun _ _ => rfl)
  refine ev_tsw 2 (tgt := 81) (L' := [some (.inl p0), some (.inl p1)]) (S' := []) (σ' := (SH L0, D)) (fun _ _ => rfl) (fun g => by simp [tsw, hc0, hc1, hc2]) ?_
  cases h
  exact ev_ret 2 (fun _ _ => rfl)
set_option maxRecDepth 100000 in
set_option maxHeartbeats 4000000 in
theorem e_X7_setting (L0 d : Nat) (hd : 1 ≤ d) {p1 : Int} {D : DT} {t0 : Int} (h : m_X7_setting p1 D = some t0) : Ret mtab d 75 [.inr (.inr 4), .inl p1] (SH L0, D) (some (.inl t0), (SH L0, D)) := by
  obtain ⟨d, rfl⟩ : ∃ e, d = e + 1 := ⟨d - 1, by omega⟩
  refine Ret.of (code := k_X7_setting) (ml := 2) rfl ?_
  show EvF mtab d k_X7_setting 0 [some (.inr (.inr 4)), some (.inl p1)] [] (SH L0, D) (some (.inl t0), (SH L0, D))
  unfold m_X7_setting at h
  rcases ite_or h with ⟨hc, h⟩ | ⟨hc, h⟩
  · refine ev_ift hc 2 (pc' := 4) (L' := [some (.inr (.inr 4)), some (.inl p1)]) (S' := []) (σ' := (SH L0, D)) (fun _ _ => rfl) ?_
    cases h
    exact ev_ret 3 (fun _ _ => rfl)
  · refine ev_iff hc 2 (pc' := 9) (L' := [some (.inr (.inr 4)), some (.inl p1)]) (S' := []) (σ' := (SH L0, D)) (fun _ _ => rfl) ?_
    rcases ite_or h with ⟨hc, h⟩ | ⟨hc, h⟩
    · refine ev_ift hc 3 (pc' := 14) (L' := [some (.inr (.inr 4)), some (.inl p1)]) (S' := []) (σ' := (SH L0, D)) (fun _ _ => rfl) ?_
      cases h
      exact ev_ret 4 (fun _ _ => rfl)
    · refine ev_iff hc 3 (pc' := 21) (L' := [some (.inr (.inr 4)), some (.inl p1)]) (S' := []) (σ' := (SH L0, D)) (fun _ _ => rfl) ?_
      cases h
      exact ev_ret 3 (fun _ _ => rfl)
set_option maxRecDepth 100000 in
set_option maxHeartbeats 4000000 in
theorem e_X7_change_4 (L0 d : Nat) (hd : 1 ≤ d) {p1 p2 : Int} {D : DT} {t0 : DT} (h : m_X7_change 4 p1 p2 D = some t0) : Ret mtab d 76 [.inr (.inr 4), .inl p1, .inl p2] (SH L0, D) (none, (SH L0, t0)) := by
  obtain ⟨d, rfl⟩ : ∃ e, d = e + 1 := ⟨d - 1, by omega⟩
  refine Ret.of (code := k_X7_change) (ml := 3) rfl ?_
  show EvF mtab d k_X7_change 0 [some (.inr (.inr 4)), some (.inl p1), some (.inl p2)] [] (SH L0, D) (none, (SH L0, t0))
  unfold m_X7_change at h
  rcases ite_or h with ⟨hc, h⟩ | ⟨hc, h⟩
  · refine ev_ift hc 2 (pc' := 4) (L' := [some (.inr (.inr 4)), some (.inl p1), some (.inl p2)]) (S' := []) (σ' := (SH L0, D)) (fun _ _ => rfl) ?_
    cases h
    exact ev_ret 5 (fun _ _ => rfl)
  · refine ev_iff hc 2 (pc' := 12) (L' := [some (.inr (.inr 4)), some (.inl p1), some (.inl p2)]) (S' := []) (σ' := (SH L0, D)) (fun _ _ => rfl) ?_
    rcases ite_or h with ⟨hc, h⟩ | ⟨hc, h⟩
    · refine ev_ift hc 3 (pc' := 17) (L' := [some (.inr (.inr 4)), some (.inl p1), some (.inl p2)]) (S' := []) (σ' := (SH L0, D)) (fun _ _ => rfl) ?_
      cases h
      exact ev_ret 5 (fun _ _ => rfl)
    · refine ev_iff hc 3 (pc' := 25) (L' := [some (.inr (.inr 4)), some (.inl p1), some (.inl p2)]) (S' := []) (σ' := (SH L0, D)) (fun _ _ => rfl) ?_
      cases h
      exact ev_ret 4 (fun _ _ => rfl)
set_option maxRecDepth 100000 in
set_option maxHeartbeats 4000000 in
theorem e_X7_change_19 (L0 d : Nat) (hd : 1 ≤ d) {p1 p2 : Int} {D : DT} {t0 : DT} (h : m_X7_change 19 p1 p2 D = some t0) : Ret mtab d 76 [.inr (.inr 19), .inl p1, .inl p2] (SH L0, D) (none, (SH L0, t0)) := by
  obtain ⟨d, rfl⟩ : ∃ e, d = e + 1 := ⟨d - 1, by omega⟩
  refine Ret.of (code := k_X7_change) (ml := 3) rfl ?_
  show EvF mtab d k_X7_change 0 [some (.inr (.inr 19)), some (.inl p1), some (.inl p2)] [] (SH L0, D) (none, (SH L0, t0))
  unfold m_X7_change at h
  rcases ite_or h with ⟨hc, h⟩ | ⟨hc, h⟩
  · refine ev_ift hc 2 (pc' := 4) (L' := [some (.inr (.inr 19)), some (.inl p1), some (.inl p2)]) (S' := []) (σ' := (SH L0, D)) (fun _ _ => rfl) ?_
    cases h
    exact ev_ret 5 (fun _ _ => rfl)
  · refine ev_iff hc 2 (pc' := 12) (L' := [some (.inr (.inr 19)), some (.inl p1), some (.inl p2)]) (S' := []) (σ' := (SH L0, D)) (fun _ _ => rfl) ?_
    rcases ite_or h with ⟨hc, h⟩ | ⟨hc, h⟩
    · refine ev_ift hc 3 (pc' := 17) (L' := [some (.inr (.inr 19)), some (.inl p1), some (.inl p2)]) (S' := []) (σ' := (SH L0, D)) (fun _ _ => rfl) ?_
      cases h
      exact ev_ret 5 (fun _ _ => rfl)
    · refine ev_iff hc 3 (pc' := 25) (L' := [some (.inr (.inr 19)), some (.inl p1), some (.inl p2)]) (S' := []) (σ' := (SH L0, D)) (fun _ _ => rfl) ?_
      cases h
      exact ev_ret 4 (fun _ _ => rfl)
set_option maxRecDepth 100000 in
set_option maxHeartbeats 4000000 in
theorem e_X7_addArc (L0 d : Nat) (hd : 1 ≤ d) {p1 p2 p3 : Int} {D : DT} {t0 : DT} (h : m_X7_addArc p1 p2 p3 D = some t0) : Ret mtab d 79 [.inr (.inr 19), .inl p1, .inl p2, .inl p3] (SH L0, D) (none, (SH L0, t0)) := by
  obtain ⟨d, rfl⟩ : ∃ e, d = e + 1 := ⟨d - 1, by omega⟩
  refine Ret.of (code := k_X7_addArc) (ml := 4) rfl ?_
  show EvF mtab d k_X7_addArc 0 [some (.inr (.inr 19)), some (.inl p1), some (.inl p2), some (.inl p3)] [] (SH L0, D) (none, (SH L0, t0))
  unfold m_X7_addArc at h
  rcases ite_or h with ⟨hc, h⟩ | ⟨hc, h⟩
  · refine ev_ift hc 4 (pc' := 9) (L' := [some (.inr (.inr 19)), some (.inl p1), some (.inl p2), some (.inl p3)]) (S' := []) (σ' := (SH L0, D)) (fun _ _ => rfl) ?_
    obtain ⟨D1, hx, h⟩ := bnd h
    refine ev_bind hx 6 (pc' := 19) (L' := fun D1 => [some (.inr (.inr 19)), some (.inl p1), some (.inl p2), some (.inl p3)]) (S' := fun D1 => []) (σ' := fun D1 => (SH L0, D1)) (fun _ _ => rfl) ?_
    obtain ⟨D2, hx, h⟩ := bnd h
    refine ev_bind hx 6 (pc' := 29) (L' := fun D2 => [some (.inr (.inr 19)), some (.inl p1), some (.inl p2), some (.inl p3)]) (S' := fun D2 => []) (σ' := fun D2 => (SH L0, D2)) (fun _ _ => rfl) ?_
    obtain ⟨D3, hx, h⟩ := bnd h
    refine ev_bind hx 6 (pc' := 39) (L' := fun D3 => [some (.inr (.inr 19)), some (.inl p1), some (.inl p2), some (.inl p3)]) (S' := fun D3 => []) (σ' := fun D3 => (SH L0, D3)) (fun _ _ => rfl) ?_
    cases h
    exact ev_ret 7 (fun _ _ => rfl)
  · refine ev_iff hc 4 (pc' := 49) (L' := [some (.inr (.inr 19)), some (.inl p1), some (.inl p2), some (.inl p3)]) (S' := []) (σ' := (SH L0, D)) (fun _ _ => rfl) ?_
    cases h
    exact ev_ret 1 (fun _ _ => rfl)
set_option maxRecDepth 100000 in
set_option maxHeartbeats 4000000 in
theorem e_X7_addFunction (L0 d : Nat) (hd : 2 ≤ d) {p1 : Int} {D : DT} {t0 : DT} (h : m_X7_addFunction p1 D = some t0) : Ret mtab d 77 [.inr (.inr 19), .inl p1] (SH L0, D) (none, (SH L0, t0)) := by
  obtain ⟨d, rfl⟩ : ∃ e, d = e + 1 := ⟨d - 1, by omega⟩
  refine Ret.of (code := k_X7_addFunction) (ml := 2) rfl ?_
  show EvF mtab d k_X7_addFunction 0 [some (.inr (.inr 19)), some (.inl p1)] [] (SH L0, D) (none, (SH L0, t0))
  unfold m_X7_addFunction at h
  rcases ite_or h with ⟨hc, h⟩ | ⟨hc, h⟩
  · refine ev_ift hc 4 (pc' := 9) (L' := [some (.inr (.inr 19)), some (.inl p1)]) (S' := []) (σ' := (SH L0, D)) (fun _ _ => rfl) ?_
    obtain ⟨D1, hx, h⟩ := bnd h
    refine ev_bind hx 6 (pc' := 19) (L' := fun D1 => [some (.inr (.inr 19)), some (.inl p1)]) (S' := fun D1 => []) (σ' := fun D1 => (SH L0, D1)) (fun _ _ => rfl) ?_
    obtain ⟨D2, hx, h⟩ := bnd h
    refine ev_call (e_X7_addArc L0 d (by omega) hx) 5 (pc' := 26) (L' := [some (.inr (.inr 19)), some (.inl p1)]) (S' := []) (fun _ _ => rfl) ?_
    cases h
    exact ev_ret 7 (fun _ _ => rfl)
  · refine ev_iff hc 4 (pc' := 36) (L' := [some (.inr (.inr 19)), some (.inl p1)]) (S' := []) (σ' := (SH L0, D)) (fun _ _ => rfl) ?_
    cases h
    exact ev_ret 1 (fun _ _ => rfl)
set_option maxRecDepth 100000 in
set_option maxHeartbeats 4000000 in
theorem e_X7_addBlock (L0 d : Nat) (hd : 1 ≤ d) {p1 p2 : Int} {D : DT} {t0 : (Int × DT)} (h : m_X7_addBlock p1 p2 D = some t0) : Ret mtab d 78 [.inr (.inr 19), .inl p1, .inl p2] (SH L0, D) (some (.inl t0.1), (SH L0, t0.2)) := by
  obtain ⟨d, rfl⟩ : ∃ e, d = e + 1 := ⟨d - 1, by omega⟩
  refine Ret.of (code := k_X7_addBlock) (ml := 4) rfl ?_
  show EvF mtab d k_X7_addBlock 0 [some (.inr (.inr 19)), some (.inl p1), some (.inl p2), none] [] (SH L0, D) (some (.inl t0.1), (SH L0, t0.2))
  unfold m_X7_addBlock at h
  rcases ite_or h with ⟨hc, h⟩ | ⟨hc, h⟩
  · refine ev_ift hc 4 (pc' := 9) (L' := [some (.inr (.inr 19)), some (.inl p1), some (.inl p2), none]) (S' := []) (σ' := (SH L0, D)) (fun _ _ => rfl) ?_
    rcases ite_or h with ⟨hc, h⟩ | ⟨hc, h⟩
    · refine ev_ift hc 2 (pc' := 21) (L' := [some (.inr (.inr 19)), some (.inl p1), some (.inl p2), none]) (S' := []) (σ' := (SH L0, D)) (fun _ _ => rfl) ?_
      cases h
      exact ev_ret 2 (fun _ _ => rfl)
    · refine ev_iff hc 2 (pc' := 13) (L' := [some (.inr (.inr 19)), some (.inl p1), some (.inl p2), none]) (S' := []) (σ' := (SH L0, D)) (fun _ _ => rfl) ?_
      rcases ite_or h with ⟨hc, h⟩ | ⟨hc, h⟩
      · refine ev_ift hc 4 (pc' := 23) (L' := [some (.inr (.inr 19)), some (.inl p1), some (.inl p2), none]) (S' := []) (σ' := (SH L0, D)) (fun _ _ => rfl) ?_
        obtain ⟨D1, hx, h⟩ := bnd h
        refine ev_bind hx 8 (pc' := 35) (L' := fun D1 => [some (.inr (.inr 19)), some (.inl p1), some (.inl p2), some (.inl (D 19 1))]) (S' := fun D1 => []) (σ' := fun D1 => (SH L0, D1)) (fun _ _ => rfl) ?_
        obtain ⟨D2, hx, h⟩ := bnd h
        refine ev_bind hx 5 (pc' := 42) (L' := fun D2 => [some (.inr (.inr 19)), some (.inl p1), some (.inl p2), some (.inl (D 19 1))]) (S' := fun D2 => []) (σ' := fun D2 => (SH L0, D2)) (fun _ _ => rfl) ?_
        obtain ⟨D3, hx, h⟩ := bnd h
        refine ev_bind hx 7 (pc' := 51) (L' := fun D3 => [some (.inr (.inr 19)), some (.inl p1), some (.inl p2), some (.inl (D 19 1))]) (S' := fun D3 => []) (σ' := fun D3 => (SH L0, D3)) (fun _ _ => rfl) ?_
        obtain ⟨D4, hx, h⟩ := bnd h
        refine ev_bind hx 9 (pc' := 62) (L' := fun D4 => [some (.inr (.inr 19)), some (.inl p1), some (.inl p2), some (.inl (D 19 1))]) (S' := fun D4 => []) (σ' := fun D4 => (SH L0, D4)) (fun _ _ => rfl) ?_
        obtain ⟨D5, hx, h⟩ := bnd h
        refine ev_bind hx 6 (pc' := 72) (L' := fun D5 => [some (.inr (.inr 19)), some (.inl p1), some (.inl p2), some (.inl (D 19 1))]) (S' := fun D5 => []) (σ' := fun D5 => (SH L0, D5)) (fun _ _ => rfl) ?_
        obtain ⟨x6, hx, h⟩ := bnd h
        refine ev_bind hx 5 (pc' := 79) (L' := fun x6 => [some (.inr (.inr 19)), some (.inl p1), some (.inl p2), some (.inl (D 19 1))]) (S' := fun x6 => [.inl x6, .inl p1, .inr (.inr 20)]) (σ' := fun x6 => (SH L0, D5)) (fun _ _ => rfl) ?_
        obtain ⟨D7, hx, h⟩ := bnd h
        refine ev_bind hx 3 (pc' := 82) (L' := fun D7 => [some (.inr (.inr 19)), some (.inl p1), some (.inl p2), some (.inl (D 19 1))]) (S' := fun D7 => []) (σ' := fun D7 => (SH L0, D7)) (fun _ _ => rfl) ?_
        cases h
        exact ev_ret 8 (fun _ _ => rfl)
      · refine ev_iff hc 4 (pc' := 21) (L' := [some (.inr (.inr 19)), some (.inl p1), some (.inl p2), none]) (S' := []) (σ' := (SH L0, D)) (fun _ _ => rfl) ?_
        cases h
        exact ev_ret 2 (fun _ _ => rfl)
  · refine ev_iff hc 4 (pc' := 21) (L' := [some (.inr (.inr 19)), some (.inl p1), some (.inl p2), none]) (S' := []) (σ' := (SH L0, D)) (fun _ _ => rfl) ?_
    cases h
    exact ev_ret 2 (fun _ _ => rfl)
set_option maxRecDepth 100000 in
set_option maxHeartbeats 4000000 in
theorem e_X7_listBlocks (L0 d : Nat) (hd : 1 ≤ d) {D : DT} {t0 : DT} (h : m_X7_listBlocks  D = some t0) : Ret mtab d 80 [.inr (.inr 19)] (SH L0, D) (none, (SH L0, t0)) := by
  obtain ⟨d, rfl⟩ : ∃ e, d = e + 1 := ⟨d - 1, by omega⟩
  refine Ret.of (code := k_X7_listBlocks) (ml := 4) rfl ?_
  show EvF mtab d k_X7_listBlocks 0 [some (.inr (.inr 19)), none, none, none] [] (SH L0, D) (none, (SH L0, t0))
  unfold m_X7_listBlocks at h
  obtain ⟨r, hr, h⟩ := bnd h
  have hX : (fun (r : DT) => ∀ (o16 : Option (Sum Int Nat)) (o17 : Option (Sum Int Nat)) (o18 : Option (Sum Int Nat)), EvF mtab d k_X7_listBlocks 61 [some (.inr (.inr 19)), dv o16, dv o17, dv o18] [] (SH L0, r) (none, (SH L0, t0))) r := by
    obtain ⟨D19, hre⟩ : ∃ q, q = r := ⟨r, rfl⟩
    subst hre
    intro o16 o17 o18
    show EvF mtab d k_X7_listBlocks 61 [some (.inr (.inr 19)), dv o16, dv o17, dv o18] [] (SH L0, D19) (none, (SH L0, t0))
    obtain ⟨D20, hx, h⟩ := bnd h
    refine ev_bind hx 8 (pc' := 76) (L' := fun D20 => [some (.inr (.inr 19)), dv o16, dv o17, dv o18]) (S' := fun D20 => []) (σ' := fun D20 => (SH L0, D20)) (fun _ _ => rfl) ?_
    cases h
    exact ev_ret 1 (fun _ _ => rfl)
  clear h
  refine ev_go 4 (pc' := 4) (L' := [some (.inr (.inr 19)), some (.inl 0), some (.inl 0), none]) (S' := []) (σ' := (SH L0, D)) (fun _ _ => rfl) ?_
  refine loop_ind (P := fun s => ∀ (o3 : Option (Sum Int Nat)), EvF mtab d k_X7_listBlocks 4 [some (.inr (.inr 19)), some (.inl s.1), some (.inl s.2.1), dv o3] [] (SH L0, s.2.2) (none, (SH L0, t0))) (X := fun r => ∀ (o16 : Option (Sum Int Nat)) (o17 : Option (Sum Int Nat)) (o18 : Option (Sum Int Nat)), EvF mtab d k_X7_listBlocks 61 [some (.inr (.inr 19)), dv o16, dv o17, dv o18] [] (SH L0, r) (none, (SH L0, t0))) hr hX ?_ none
  clear hr hX
  intro s t hb hK0
  obtain ⟨l1_1, l2_2, D4⟩ := s
  intro o3
  show EvF mtab d k_X7_listBlocks 4 [some (.inr (.inr 19)), some (.inl l1_1), some (.inl l2_2), dv o3] [] (SH L0, D4) (none, (SH L0, t0))
  unfold b_X7_listBlocks_4 at hb
  rcases ite_or hb with ⟨hc, hb⟩ | ⟨hc, hb⟩
  · refine ev_ift hc 4 (pc' := 12) (L' := [some (.inr (.inr 19)), some (.inl l1_1), some (.inl l2_2), dv o3]) (S' := []) (σ' := (SH L0, D4)) (fun _ _ => rfl) ?_
    obtain ⟨D5, hx, hb⟩ := bnd hb
    refine ev_bind hx 5 (pc' := 19) (L' := fun D5 => [some (.inr (.inr 19)), some (.inl l1_1), some (.inl l2_2), dv o3]) (S' := fun D5 => []) (σ' := fun D5 => (SH L0, D5)) (fun _ _ => rfl) ?_
    obtain ⟨r, hr, hb⟩ := bnd hb
    have hX : (fun (r : (Int × DT)) => ∀ (o14 : Option (Sum Int Nat)), EvF mtab d k_X7_listBlocks 55 [some (.inr (.inr 19)), some (.inl r.1), some (.inl l2_2), dv o14] [] (SH L0, r.2) (none, (SH L0, t0))) r := by
      obtain ⟨l1_13, D15⟩ := r
      intro o14
      show EvF mtab d k_X7_listBlocks 55 [some (.inr (.inr 19)), some (.inl l1_13), some (.inl l2_2), dv o14] [] (SH L0, D15) (none, (SH L0, t0))
      cases hb
      exact ev_go 2 (pc' := 4) (L' := [some (.inr (.inr 19)), some (.inl l1_13), some (.inl (w32 (l2_2 + 1))), dv o14]) (S' := []) (σ' := (SH L0, D15)) (fun _ _ => rfl) (hK0 o14)
    clear hb
    refine ev_go 2 (pc' := 21) (L' := [some (.inr (.inr 19)), some (.inl l1_1), some (.inl l2_2), some (.inl 0)]) (S' := []) (σ' := (SH L0, D5)) (fun _ _ => rfl) ?_
    refine loop_ind (P := fun s => EvF mtab d k_X7_listBlocks 21 [some (.inr (.inr 19)), some (.inl s.1), some (.inl l2_2), some (.inl s.2.1)] [] (SH L0, s.2.2) (none, (SH L0, t0))) (X := fun r => ∀ (o14 : Option (Sum Int Nat)), EvF mtab d k_X7_listBlocks 55 [some (.inr (.inr 19)), some (.inl r.1), some (.inl l2_2), dv o14] [] (SH L0, r.2) (none, (SH L0, t0))) hr hX ?_
    clear hr hX
    intro s t hb hK1
    obtain ⟨l1_6, l3_7, D8⟩ := s
    show EvF mtab d k_X7_listBlocks 21 [some (.inr (.inr 19)), some (.inl l1_6), some (.inl l2_2), some (.inl l3_7)] [] (SH L0, D8) (none, (SH L0, t0))
    unfold b_X7_listBlocks_21 at hb
    rcases ite_or hb with ⟨hc, hb⟩ | ⟨hc, hb⟩
    · refine ev_ift hc 4 (pc' := 29) (L' := [some (.inr (.inr 19)), some (.inl l1_6), some (.inl l2_2), some (.inl l3_7)]) (S' := []) (σ' := (SH L0, D8)) (fun _ _ => rfl) ?_
      obtain ⟨x9, hx, hb⟩ := bnd hb
      refine ev_bind hx 4 (pc' := 35) (L' := fun x9 => [some (.inr (.inr 19)), some (.inl l1_6), some (.inl l2_2), some (.inl l3_7)]) (S' := fun x9 => [.inl x9]) (σ' := fun x9 => (SH L0, D8)) (fun _ _ => rfl) ?_
      obtain ⟨⟨l1_11, D12⟩, hv, hb⟩ := bnd hb
      have hJ : EvF mtab d k_X7_listBlocks 49 [some (.inr (.inr 19)), some (.inl l1_11), some (.inl l2_2), some (.inl l3_7)] [] (SH L0, D12) (none, (SH L0, t0)) := by
        cases hb
        exact ev_go 2 (pc' := 21) (L' := [some (.inr (.inr 19)), some (.inl l1_11), some (.inl l2_2), some (.inl (w32 (l3_7 + 1)))]) (S' := []) (σ' := (SH L0, D12)) (fun _ _ => rfl) hK1
      clear hb
      rcases ite_or hv with ⟨hc, hv⟩ | ⟨hc, hv⟩
      · refine ev_ift hc 2 (pc' := 39) (L' := [some (.inr (.inr 19)), some (.inl l1_6), some (.inl l2_2), some (.inl l3_7)]) (S' := []) (σ' := (SH L0, D8)) (fun _ _ => rfl) ?_
        obtain ⟨D10, hx, hv⟩ := bnd hv
        refine ev_bind hx 5 (pc' := 46) (L' := fun D10 => [some (.inr (.inr 19)), some (.inl l1_6), some (.inl l2_2), some (.inl l3_7)]) (S' := fun D10 => []) (σ' := fun D10 => (SH L0, D10)) (fun _ _ => rfl) ?_
        have he0 := Option.some.inj hv
        obtain ⟨ha0, he1⟩ := Prod.mk.inj he0
        clear he0
        subst ha0
        subst he1
        exact ev_go 1 (pc' := 49) (L' := [some (.inr (.inr 19)), some (.inl (w32 (l1_6 + 1))), some (.inl l2_2), some (.inl l3_7)]) (S' := []) (σ' := (SH L0, D10)) (fun _ _ => rfl) hJ
      · refine ev_iff hc 2 (pc' := 49) (L' := [some (.inr (.inr 19)), some (.inl l1_6), some (.inl l2_2), some (.inl l3_7)]) (S' := []) (σ' := (SH L0, D8)) (fun _ _ => rfl) ?_
        have he0 := Option.some.inj hv
        obtain ⟨ha0, he1⟩ := Prod.mk.inj he0
        clear he0
        subst ha0
        subst he1
        exact hJ
    · refine ev_iff hc 4 (pc' := 55) (L' := [some (.inr (.inr 19)), some (.inl l1_6), some (.inl l2_2), some (.inl l3_7)]) (S' := []) (σ' := (SH L0, D8)) (fun _ _ => rfl) ?_
      cases hb
      exact hK1 (some (.inl l3_7))
  · refine ev_iff hc 4 (pc' := 61) (L' := [some (.inr (.inr 19)), some (.inl l1_1), some (.inl l2_2), dv o3]) (S' := []) (σ' := (SH L0, D4)) (fun _ _ => rfl) ?_
    cases hb
    exact hK0 (some (.inl l1_1)) (some (.inl l2_2)) o3
set_option maxRecDepth 100000 in
set_option maxHeartbeats 4000000 in
theorem e_X7_callsOf (L0 d : Nat) (hd : 1 ≤ d) {p1 : Int} {D : DT} {t0 : Int} (h : m_X7_callsOf p1 D = some t0) : Ret mtab d 85 [.inr (.inr 4), .inl p1] (SH L0, D) (some (.inl t0), (SH L0, D)) := by
  obtain ⟨d, rfl⟩ : ∃ e, d = e + 1 := ⟨d - 1, by omega⟩
  refine Ret.of (code := k_X7_callsOf) (ml := 4) rfl ?_
  show EvF mtab d k_X7_callsOf 0 [some (.inr (.inr 4)), some (.inl p1), none, none] [] (SH L0, D) (some (.inl t0), (SH L0, D))
  unfold m_X7_callsOf at h
  obtain ⟨r, hr, h⟩ := bnd h
  have hX : (fun (r : Int) => ∀ (o6 : Option (Sum Int Nat)), EvF mtab d k_X7_callsOf 32 [some (.inr (.inr 4)), some (.inl p1), some (.inl r), dv o6] [] (SH L0, D) (some (.inl t0), (SH L0, D))) r := by
    obtain ⟨l2_5, hre⟩ : ∃ q, q = r := ⟨r, rfl⟩
    subst hre
    intro o6
    show EvF mtab d k_X7_callsOf 32 [some (.inr (.inr 4)), some (.inl p1), some (.inl l2_5), dv o6] [] (SH L0, D) (some (.inl t0), (SH L0, D))
    cases h
    exact ev_ret 2 (fun _ _ => rfl)
  clear h
  refine ev_go 4 (pc' := 4) (L' := [some (.inr (.inr 4)), some (.inl p1), some (.inl 0), some (.inl 0)]) (S' := []) (σ' := (SH L0, D)) (fun _ _ => rfl) ?_
  refine loop_ind (P := fun s => EvF mtab d k_X7_callsOf 4 [some (.inr (.inr 4)), some (.inl p1), some (.inl s.1), some (.inl s.2)] [] (SH L0, D) (some (.inl t0), (SH L0, D))) (X := fun r => ∀ (o6 : Option (Sum Int Nat)), EvF mtab d k_X7_callsOf 32 [some (.inr (.inr 4)), some (.inl p1), some (.inl r), dv o6] [] (SH L0, D) (some (.inl t0), (SH L0, D))) hr hX ?_
  clear hr hX
  intro s t hb hK0
  obtain ⟨l2_1, l3_2⟩ := s
  show EvF mtab d k_X7_callsOf 4 [some (.inr (.inr 4)), some (.inl p1), some (.inl l2_1), some (.inl l3_2)] [] (SH L0, D) (some (.inl t0), (SH L0, D))
  unfold b_X7_callsOf_4 at hb
  rcases ite_or hb with ⟨hc, hb⟩ | ⟨hc, hb⟩
  · refine ev_ift hc 3 (pc' := 9) (L' := [some (.inr (.inr 4)), some (.inl p1), some (.inl l2_1), some (.inl l3_2)]) (S' := []) (σ' := (SH L0, D)) (fun _ _ => rfl) ?_
    obtain ⟨x3, hx, hb⟩ := bnd hb
    refine ev_bind hx 8 (pc' := 19) (L' := fun x3 => [some (.inr (.inr 4)), some (.inl p1), some (.inl l2_1), some (.inl l3_2)]) (S' := fun x3 => [.inl x3]) (σ' := fun x3 => (SH L0, D)) (fun _ _ => rfl) ?_
    obtain ⟨l2_4, hv, hb⟩ := bnd hb
    have hJ : EvF mtab d k_X7_callsOf 26 [some (.inr (.inr 4)), some (.inl p1), some (.inl l2_4), some (.inl l3_2)] [] (SH L0, D) (some (.inl t0), (SH L0, D)) := by
      cases hb
      exact ev_go 2 (pc' := 4) (L' := [some (.inr (.inr 4)), some (.inl p1), some (.inl l2_4), some (.inl (w32 (l3_2 + 1)))]) (S' := []) (σ' := (SH L0, D)) (fun _ _ => rfl) hK0
    clear hb
    rcases ite_or hv with ⟨hc, hv⟩ | ⟨hc, hv⟩
    · refine ev_ift hc 2 (pc' := 26) (L' := [some (.inr (.inr 4)), some (.inl p1), some (.inl l2_1), some (.inl l3_2)]) (S' := []) (σ' := (SH L0, D)) (fun _ _ => rfl) ?_
      have he0 := Option.some.inj hv
      subst he0
      exact hJ
    · refine ev_iff hc 2 (pc' := 23) (L' := [some (.inr (.inr 4)), some (.inl p1), some (.inl l2_1), some (.inl l3_2)]) (S' := []) (σ' := (SH L0, D)) (fun _ _ => rfl) ?_
      have he0 := Option.some.inj hv
      subst he0
      exact ev_go 1 (pc' := 26) (L' := [some (.inr (.inr 4)), some (.inl p1), some (.inl (w32 (l2_1 + 1))), some (.inl l3_2)]) (S' := []) (σ' := (SH L0, D)) (fun _ _ => rfl) hJ
  · refine ev_iff hc 3 (pc' := 32) (L' := [some (.inr (.inr 4)), some (.inl p1), some (.inl l2_1), some (.inl l3_2)]) (S' := []) (σ' := (SH L0, D)) (fun _ _ => rfl) ?_
    cases hb
    exact hK0 (some (.inl l3_2))
set_option maxRecDepth 100000 in
set_option maxHeartbeats 4000000 in
theorem e_X7_shift (L0 d : Nat) (hd : 1 ≤ d) {p1 p2 : Int} {D : DT} {t0 : DT} (h : m_X7_shift p1 p2 D = some t0) : Ret mtab d 89 [.inr (.inr 4), .inl p1, .inl p2] (SH L0, D) (none, (SH L0, t0)) := by
  obtain ⟨d, rfl⟩ : ∃ e, d = e + 1 := ⟨d - 1, by omega⟩
  refine Ret.of (code := k_X7_shift) (ml := 4) rfl ?_
  show EvF mtab d k_X7_shift 0 [some (.inr (.inr 4)), some (.inl p1), some (.inl p2), none] [] (SH L0, D) (none, (SH L0, t0))
  unfold m_X7_shift at h
  obtain ⟨x1, hx, h⟩ := bnd h
  refine ev_bind hx 4 (pc' := 6) (L' := fun x1 => [some (.inr (.inr 4)), some (.inl p1), some (.inl p2), none]) (S' := fun x1 => [.inl x1]) (σ' := fun x1 => (SH L0, D)) (fun _ _ => rfl) ?_
  obtain ⟨D4, hv, h⟩ := bnd h
  have hJ : EvF mtab d k_X7_shift 51 [some (.inr (.inr 4)), some (.inl p1), some (.inl p2), some (.inl x1)] [] (SH L0, D4) (none, (SH L0, t0)) := by
    obtain ⟨D5, hx, h⟩ := bnd h
    refine ev_bind hx 5 (pc' := 58) (L' := fun D5 => [some (.inr (.inr 4)), some (.inl p1), some (.inl p2), some (.inl x1)]) (S' := fun D5 => []) (σ' := fun D5 => (SH L0, D5)) (fun _ _ => rfl) ?_
    cases h
    exact ev_ret 1 (fun _ _ => rfl)
  clear h
  rcases ite_or hv with ⟨hc, hv⟩ | ⟨hc, hv⟩
  · refine ev_ift hc 4 (pc' := 12) (L' := [some (.inr (.inr 4)), some (.inl p1), some (.inl p2), some (.inl x1)]) (S' := []) (σ' := (SH L0, D)) (fun _ _ => rfl) ?_
    obtain ⟨D2, hx, hv⟩ := bnd hv
    refine ev_bind hx 12 (pc' := 30) (L' := fun D2 => [some (.inr (.inr 4)), some (.inl p1), some (.inl p2), some (.inl x1)]) (S' := fun D2 => []) (σ' := fun D2 => (SH L0, D2)) (fun _ _ => rfl) ?_
    have he0 := Option.some.inj hv
    subst he0
    exact ev_go 1 (pc' := 51) (L' := [some (.inr (.inr 4)), some (.inl p1), some (.inl p2), some (.inl x1)]) (S' := []) (σ' := (SH L0, D2)) (fun _ _ => rfl) hJ
  · refine ev_iff hc 4 (pc' := 33) (L' := [some (.inr (.inr 4)), some (.inl p1), some (.inl p2), some (.inl x1)]) (S' := []) (σ' := (SH L0, D)) (fun _ _ => rfl) ?_
    obtain ⟨D3, hx, hv⟩ := bnd hv
    refine ev_bind hx 12 (pc' := 51) (L' := fun D3 => [some (.inr (.inr 4)), some (.inl p1), some (.inl p2), some (.inl x1)]) (S' := fun D3 => []) (σ' := fun D3 => (SH L0, D3)) (fun _ _ => rfl) ?_
    have he0 := Option.some.inj hv
    subst he0
    exact hJ
set_option maxRecDepth 100000 in
set_option maxHeartbeats 4000000 in
theorem e_X8_refuseToken (L0 d : Nat) (hd : 1 ≤ d) {p1 : Int} {D : DT} {t0 : (Int × DT)} (h : m_X8_refuseToken p1 D = some t0) : Ret mtab d 92 [.inr (.inr 18), .inl p1] (SH L0, D) (some (.inl t0.1), (SH L0, t0.2)) := by
  obtain ⟨d, rfl⟩ : ∃ e, d = e + 1 := ⟨d - 1, by omega⟩
  refine Ret.of (code := k_X8_refuseToken) (ml := 2) rfl ?_
  show EvF mtab d k_X8_refuseToken 0 [some (.inr (.inr 18)), some (.inl p1)] [] (SH L0, D) (some (.inl t0.1), (SH L0, t0.2))
  unfold m_X8_refuseToken at h
  obtain ⟨t1, hv, h⟩ := bnd h
  have hJ : EvF mtab d k_X8_refuseToken 17 [some (.inr (.inr 18)), some (.inl p1)] [.inl t1, .inr (.inr 18)] (SH L0, D) (some (.inl t0.1), (SH L0, t0.2)) := by
    cases h
    exact ev_ret 8 (fun _ _ => rfl)
  clear h
  rcases ite_or hv with ⟨hc, hv⟩ | ⟨hc, hv⟩
  · refine ev_ift hc 6 (pc' := 12) (L' := [some (.inr (.inr 18)), some (.inl p1)]) (S' := [.inr (.inr 18)]) (σ' := (SH L0, D)) (fun _ _ => rfl) ?_
    have he0 := Option.some.inj hv
    subst he0
    exact ev_go 2 (pc' := 17) (L' := [some (.inr (.inr 18)), some (.inl p1)]) (S' := [.inl 1, .inr (.inr 18)]) (σ' := (SH L0, D)) (fun _ _ => rfl) hJ
  · refine ev_iff hc 6 (pc' := 16) (L' := [some (.inr (.inr 18)), some (.inl p1)]) (S' := [.inr (.inr 18)]) (σ' := (SH L0, D)) (fun _ _ => rfl) ?_
    have he0 := Option.some.inj hv
    subst he0
    exact ev_go 1 (pc' := 17) (L' := [some (.inr (.inr 18)), some (.inl p1)]) (S' := [.inl p1, .inr (.inr 18)]) (σ' := (SH L0, D)) (fun _ _ => rfl) hJ
set_option maxRecDepth 100000 in
set_option maxHeartbeats 4000000 in
theorem e_X9_readWord (L0 d : Nat) (hd : 1 ≤ d) {D : DT} {t0 : DT} (h : m_X9_readWord  D = some t0) : Ret mtab d 113 [.inr (.inr 35)] (SH L0, D) (none, (SH L0, t0)) := by
  obtain ⟨d, rfl⟩ : ∃ e, d = e + 1 := ⟨d - 1, by omega⟩
  refine Ret.of (code := k_X9_readWord) (ml := 1) rfl ?_
  show EvF mtab d k_X9_readWord 0 [some (.inr (.inr 35))] [] (SH L0, D) (none, (SH L0, t0))
  unfold m_X9_readWord at h
  obtain ⟨r, hr, h⟩ := bnd h
  have hX : (fun (r : DT) => EvF mtab d k_X9_readWord 75 [some (.inr (.inr 35))] [] (SH L0, r) (none, (SH L0, t0))) r := by
    obtain ⟨D5, hre⟩ : ∃ q, q = r := ⟨r, rfl⟩
    subst hre
    show EvF mtab d k_X9_readWord 75 [some (.inr (.inr 35))] [] (SH L0, D5) (none, (SH L0, t0))
    rcases ite_or h with ⟨hc, h⟩ | ⟨hc, h⟩
    · refine ev_ift hc 10 (pc' := 94) (L' := [some (.inr (.inr 35))]) (S' := []) (σ' := (SH L0, dput D5 35 3 1)) (fun _ _ => rfl) ?_
      cases h
      exact ev_ret 4 (fun _ _ => rfl)
    · refine ev_iff hc 10 (pc' := 99) (L' := [some (.inr (.inr 35))]) (S' := []) (σ' := (SH L0, dput D5 35 3 1)) (fun _ _ => rfl) ?_
      cases h
      exact ev_ret 1 (fun _ _ => rfl)
  clear h
  refine loop_ind (P := fun s => EvF mtab d k_X9_readWord 0 [some (.inr (.inr 35))] [] (SH L0, s) (none, (SH L0, t0))) (X := fun r => EvF mtab d k_X9_readWord 75 [some (.inr (.inr 35))] [] (SH L0, r) (none, (SH L0, t0))) hr hX ?_
  clear hr hX
  intro s t hb hK0
  obtain ⟨D1, hre⟩ : ∃ q, q = s := ⟨s, rfl⟩
  subst hre
  show EvF mtab d k_X9_readWord 0 [some (.inr (.inr 35))] [] (SH L0, D1) (none, (SH L0, t0))
  unfold b_X9_readWord_0 at hb
  rcases ite_or hb with ⟨hc, hb⟩ | ⟨hc, hb⟩
  · refine ev_ift hc 5 (pc' := 11) (L' := [some (.inr (.inr 35))]) (S' := []) (σ' := (SH L0, D1)) (fun _ _ => rfl) ?_
    obtain ⟨x2, hx, hb⟩ := bnd hb
    refine ev_bind hx 5 (pc' := 20) (L' := fun x2 => [some (.inr (.inr 35))]) (S' := fun x2 => [.inl x2]) (σ' := fun x2 => (SH L0, D1)) (fun _ _ => rfl) ?_
    rcases ite_or hb with ⟨hc, hb⟩ | ⟨hc, hb⟩
    · refine ev_ift hc 2 (pc' := 75) (L' := [some (.inr (.inr 35))]) (S' := []) (σ' := (SH L0, D1)) (fun _ _ => rfl) ?_
      cases hb
      exact hK0
    · refine ev_iff hc 2 (pc' := 25) (L' := [some (.inr (.inr 35))]) (S' := []) (σ' := (SH L0, D1)) (fun _ _ => rfl) ?_
      obtain ⟨x3, hx, hb⟩ := bnd hb
      refine ev_bind hx 5 (pc' := 34) (L' := fun x3 => [some (.inr (.inr 35))]) (S' := fun x3 => [.inl x3]) (σ' := fun x3 => (SH L0, D1)) (fun _ _ => rfl) ?_
      rcases ite_or hb with ⟨hc, hb⟩ | ⟨hc, hb⟩
      · refine ev_ift hc 2 (pc' := 75) (L' := [some (.inr (.inr 35))]) (S' := []) (σ' := (SH L0, D1)) (fun _ _ => rfl) ?_
        cases hb
        exact hK0
      · refine ev_iff hc 2 (pc' := 39) (L' := [some (.inr (.inr 35))]) (S' := []) (σ' := (SH L0, D1)) (fun _ _ => rfl) ?_
        obtain ⟨x4, hx, hb⟩ := bnd hb
        refine ev_bind hx 10 (pc' := 55) (L' := fun x4 => [some (.inr (.inr 35))]) (S' := fun x4 => [.inl x4, .inl (ashl (D1 35 5) 5), .inr (.inr 35)]) (σ' := fun x4 => (SH L0, D1)) (fun _ _ => rfl) ?_
        cases hb
        exact ev_go 11 (pc' := 0) (L' := [some (.inr (.inr 35))]) (S' := []) (σ' := (SH L0, dput (dput D1 35 5 (aor (ashl (D1 35 5) 5) (aand x4 31))) 35 2 (w32 (((dput D1 35 5 (aor (ashl (D1 35 5) 5) (aand x4 31))) 35 2) + 1)))) (fun _ _ => rfl) hK0
  · refine ev_iff hc 5 (pc' := 75) (L' := [some (.inr (.inr 35))]) (S' := []) (σ' := (SH L0, D1)) (fun _ _ => rfl) ?_
    cases hb
    exact hK0
set_option maxRecDepth 100000 in
set_option maxHeartbeats 4000000 in
theorem e_X9_readNumber (L0 d : Nat) (hd : 1 ≤ d) {D : DT} {t0 : DT} (h : m_X9_readNumber  D = some t0) : Ret mtab d 114 [.inr (.inr 35)] (SH L0, D) (none, (SH L0, t0)) := by
  obtain ⟨d, rfl⟩ : ∃ e, d = e + 1 := ⟨d - 1, by omega⟩
  refine Ret.of (code := k_X9_readNumber) (ml := 1) rfl ?_
  show EvF mtab d k_X9_readNumber 0 [some (.inr (.inr 35))] [] (SH L0, D) (none, (SH L0, t0))
  unfold m_X9_readNumber at h
  obtain ⟨r, hr, h⟩ := bnd h
  have hX : (fun (r : DT) => EvF mtab d k_X9_readNumber 76 [some (.inr (.inr 35))] [] (SH L0, r) (none, (SH L0, t0))) r := by
    obtain ⟨D5, hre⟩ : ∃ q, q = r := ⟨r, rfl⟩
    subst hre
    show EvF mtab d k_X9_readNumber 76 [some (.inr (.inr 35))] [] (SH L0, D5) (none, (SH L0, t0))
    obtain ⟨t6, hv, h⟩ := bnd h
    have hJ : EvF mtab d k_X9_readNumber 95 [some (.inr (.inr 35))] [.inl t6, .inr (.inr 35)] (SH L0, D5) (none, (SH L0, t0)) := by
      cases h
      exact ev_ret 2 (fun _ _ => rfl)
    clear h
    rcases ite_or hv with ⟨hc, hv⟩ | ⟨hc, hv⟩
    · refine ev_ift hc 8 (pc' := 90) (L' := [some (.inr (.inr 35))]) (S' := [.inr (.inr 35)]) (σ' := (SH L0, D5)) (fun _ _ => rfl) ?_
      have he0 := Option.some.inj hv
      subst he0
      exact ev_go 2 (pc' := 95) (L' := [some (.inr (.inr 35))]) (S' := [.inl 4, .inr (.inr 35)]) (σ' := (SH L0, D5)) (fun _ _ => rfl) hJ
    · refine ev_iff hc 8 (pc' := 94) (L' := [some (.inr (.inr 35))]) (S' := [.inr (.inr 35)]) (σ' := (SH L0, D5)) (fun _ _ => rfl) ?_
      have he0 := Option.some.inj hv
      subst he0
      exact ev_go 1 (pc' := 95) (L' := [some (.inr (.inr 35))]) (S' := [.inl 2, .inr (.inr 35)]) (σ' := (SH L0, D5)) (fun _ _ => rfl) hJ
  clear h
  refine loop_ind (P := fun s => EvF mtab d k_X9_readNumber 0 [some (.inr (.inr 35))] [] (SH L0, s) (none, (SH L0, t0))) (X := fun r => EvF mtab d k_X9_readNumber 76 [some (.inr (.inr 35))] [] (SH L0, r) (none, (SH L0, t0))) hr hX ?_
  clear hr hX
  intro s t hb hK0
  obtain ⟨D1, hre⟩ : ∃ q, q = s := ⟨s, rfl⟩
  subst hre
  show EvF mtab d k_X9_readNumber 0 [some (.inr (.inr 35))] [] (SH L0, D1) (none, (SH L0, t0))
  unfold b_X9_readNumber_0 at hb
  rcases ite_or hb with ⟨hc, hb⟩ | ⟨hc, hb⟩
  · refine ev_ift hc 5 (pc' := 11) (L' := [some (.inr (.inr 35))]) (S' := []) (σ' := (SH L0, D1)) (fun _ _ => rfl) ?_
    obtain ⟨x2, hx, hb⟩ := bnd hb
    refine ev_bind hx 5 (pc' := 20) (L' := fun x2 => [some (.inr (.inr 35))]) (S' := fun x2 => [.inl x2]) (σ' := fun x2 => (SH L0, D1)) (fun _ _ => rfl) ?_
    rcases ite_or hb with ⟨hc, hb⟩ | ⟨hc, hb⟩
    · refine ev_ift hc 2 (pc' := 76) (L' := [some (.inr (.inr 35))]) (S' := []) (σ' := (SH L0, D1)) (fun _ _ => rfl) ?_
      cases hb
      exact hK0
    · refine ev_iff hc 2 (pc' := 25) (L' := [some (.inr (.inr 35))]) (S' := []) (σ' := (SH L0, D1)) (fun _ _ => rfl) ?_
      obtain ⟨x3, hx, hb⟩ := bnd hb
      refine ev_bind hx 5 (pc' := 34) (L' := fun x3 => [some (.inr (.inr 35))]) (S' := fun x3 => [.inl x3]) (σ' := fun x3 => (SH L0, D1)) (fun _ _ => rfl) ?_
      rcases ite_or hb with ⟨hc, hb⟩ | ⟨hc, hb⟩
      · refine ev_ift hc 2 (pc' := 76) (L' := [some (.inr (.inr 35))]) (S' := []) (σ' := (SH L0, D1)) (fun _ _ => rfl) ?_
        cases hb
        exact hK0
      · refine ev_iff hc 2 (pc' := 39) (L' := [some (.inr (.inr 35))]) (S' := []) (σ' := (SH L0, D1)) (fun _ _ => rfl) ?_
        obtain ⟨x4, hx, hb⟩ := bnd hb
        refine ev_bind hx 10 (pc' := 56) (L' := fun x4 => [some (.inr (.inr 35))]) (S' := fun x4 => [.inl x4, .inl (w32 ((D1 35 5) * 10)), .inr (.inr 35)]) (σ' := fun x4 => (SH L0, D1)) (fun _ _ => rfl) ?_
        cases hb
        exact ev_go 11 (pc' := 0) (L' := [some (.inr (.inr 35))]) (S' := []) (σ' := (SH L0, dput (dput D1 35 5 (w32 ((w32 ((w32 ((D1 35 5) * 10)) + x4)) - 48))) 35 2 (w32 (((dput D1 35 5 (w32 ((w32 ((w32 ((D1 35 5) * 10)) + x4)) - 48))) 35 2) + 1)))) (fun _ _ => rfl) hK0
  · refine ev_iff hc 5 (pc' := 76) (L' := [some (.inr (.inr 35))]) (S' := []) (σ' := (SH L0, D1)) (fun _ _ => rfl) ?_
    cases hb
    exact hK0
set_option maxRecDepth 100000 in
set_option maxHeartbeats 4000000 in
theorem e_X9_next (L0 d : Nat) (hd : 2 ≤ d) {D : DT} {t0 : DT} (h : m_X9_next  D = some t0) : Ret mtab d 112 [.inr (.inr 35)] (SH L0, D) (none, (SH L0, t0)) := by
  obtain ⟨d, rfl⟩ : ∃ e, d = e + 1 := ⟨d - 1, by omega⟩
  refine Ret.of (code := k_X9_next) (ml := 1) rfl ?_
  show EvF mtab d k_X9_next 0 [some (.inr (.inr 35))] [] (SH L0, D) (none, (SH L0, t0))
  unfold m_X9_next at h
  obtain ⟨r, hr, h⟩ := bnd h
  have hX : (fun (r : DT) => EvF mtab d k_X9_next 60 [some (.inr (.inr 35))] [] (SH L0, r) (none, (SH L0, t0))) r := by
    obtain ⟨D4, hre⟩ : ∃ q, q = r := ⟨r, rfl⟩
    subst hre
    show EvF mtab d k_X9_next 60 [some (.inr (.inr 35))] [] (SH L0, D4) (none, (SH L0, t0))
    rcases ite_or h with ⟨hc, h⟩ | ⟨hc, h⟩
    · refine ev_ift hc 12 (pc' := 92) (L' := [some (.inr (.inr 35))]) (S' := []) (σ' := (SH L0, dput (dput D4 35 2 (D4 35 4)) 35 5 0)) (fun _ _ => rfl) ?_
      obtain ⟨x5, hx, h⟩ := bnd h
      refine ev_bind hx 5 (pc' := 101) (L' := fun x5 => [some (.inr (.inr 35))]) (S' := fun x5 => [.inl x5]) (σ' := fun x5 => (SH L0, dput (dput D4 35 2 (D4 35 4)) 35 5 0)) (fun _ _ => rfl) ?_
      rcases ite_or h with ⟨hc, h⟩ | ⟨hc, h⟩
      · refine ev_ift hc 2 (pc' := 127) (L' := [some (.inr (.inr 35))]) (S' := []) (σ' := (SH L0, dput (dput D4 35 2 (D4 35 4)) 35 5 0)) (fun _ _ => rfl) ?_
        obtain ⟨x6, hx, h⟩ := bnd h
        refine ev_bind hx 5 (pc' := 136) (L' := fun x6 => [some (.inr (.inr 35))]) (S' := fun x6 => [.inl x6]) (σ' := fun x6 => (SH L0, dput (dput D4 35 2 (D4 35 4)) 35 5 0)) (fun _ _ => rfl) ?_
        rcases ite_or h with ⟨hc, h⟩ | ⟨hc, h⟩
        · refine ev_ift hc 2 (pc' := 162) (L' := [some (.inr (.inr 35))]) (S' := []) (σ' := (SH L0, dput (dput D4 35 2 (D4 35 4)) 35 5 0)) (fun _ _ => rfl) ?_
          obtain ⟨x7, hx, h⟩ := bnd h
          refine ev_bind hx 6 (pc' := 172) (L' := fun x7 => [some (.inr (.inr 35))]) (S' := fun x7 => [.inl x7, .inr (.inr 35)]) (σ' := fun x7 => (SH L0, dput (dput D4 35 2 (D4 35 4)) 35 5 0)) (fun _ _ => rfl) ?_
          obtain ⟨t8, hv, h⟩ := bnd h
          have hJ : EvF mtab d k_X9_next 182 [some (.inr (.inr 35))] [.inl t8, .inr (.inr 35)] (SH L0, dput (dput D4 35 2 (D4 35 4)) 35 5 0) (none, (SH L0, t0)) := by
            cases h
            exact ev_ret 8 (fun _ _ => rfl)
          clear h
          rcases ite_or hv with ⟨hc, hv⟩ | ⟨hc, hv⟩
          · refine ev_ift hc 2 (pc' := 177) (L' := [some (.inr (.inr 35))]) (S' := [.inr (.inr 35)]) (σ' := (SH L0, dput (dput D4 35 2 (D4 35 4)) 35 5 0)) (fun _ _ => rfl) ?_
            have he0 := Option.some.inj hv
            subst he0
            exact ev_go 2 (pc' := 182) (L' := [some (.inr (.inr 35))]) (S' := [.inl 3, .inr (.inr 35)]) (σ' := (SH L0, dput (dput D4 35 2 (D4 35 4)) 35 5 0)) (fun _ _ => rfl) hJ
          · refine ev_iff hc 2 (pc' := 181) (L' := [some (.inr (.inr 35))]) (S' := [.inr (.inr 35)]) (σ' := (SH L0, dput (dput D4 35 2 (D4 35 4)) 35 5 0)) (fun _ _ => rfl) ?_
            have he0 := Option.some.inj hv
            subst he0
            exact ev_go 1 (pc' := 182) (L' := [some (.inr (.inr 35))]) (S' := [.inl 4, .inr (.inr 35)]) (σ' := (SH L0, dput (dput D4 35 2 (D4 35 4)) 35 5 0)) (fun _ _ => rfl) hJ
        · refine ev_iff hc 2 (pc' := 141) (L' := [some (.inr (.inr 35))]) (S' := []) (σ' := (SH L0, dput (dput D4 35 2 (D4 35 4)) 35 5 0)) (fun _ _ => rfl) ?_
          obtain ⟨x9, hx, h⟩ := bnd h
          refine ev_bind hx 5 (pc' := 150) (L' := fun x9 => [some (.inr (.inr 35))]) (S' := fun x9 => [.inl x9]) (σ' := fun x9 => (SH L0, dput (dput D4 35 2 (D4 35 4)) 35 5 0)) (fun _ _ => rfl) ?_
          rcases ite_or h with ⟨hc, h⟩ | ⟨hc, h⟩
          · refine ev_ift hc 2 (pc' := 162) (L' := [some (.inr (.inr 35))]) (S' := []) (σ' := (SH L0, dput (dput D4 35 2 (D4 35 4)) 35 5 0)) (fun _ _ => rfl) ?_
            obtain ⟨x10, hx, h⟩ := bnd h
            refine ev_bind hx 6 (pc' := 172) (L' := fun x10 => [some (.inr (.inr 35))]) (S' := fun x10 => [.inl x10, .inr (.inr 35)]) (σ' := fun x10 => (SH L0, dput (dput D4 35 2 (D4 35 4)) 35 5 0)) (fun _ _ => rfl) ?_
            obtain ⟨t11, hv, h⟩ := bnd h
            have hJ : EvF mtab d k_X9_next 182 [some (.inr (.inr 35))] [.inl t11, .inr (.inr 35)] (SH L0, dput (dput D4 35 2 (D4 35 4)) 35 5 0) (none, (SH L0, t0)) := by
              cases h
              exact ev_ret 8 (fun _ _ => rfl)
            clear h
            rcases ite_or hv with ⟨hc, hv⟩ | ⟨hc, hv⟩
            · refine ev_ift hc 2 (pc' := 177) (L' := [some (.inr (.inr 35))]) (S' := [.inr (.inr 35)]) (σ' := (SH L0, dput (dput D4 35 2 (D4 35 4)) 35 5 0)) (fun _ _ => rfl) ?_
              have he0 := Option.some.inj hv
              subst he0
              exact ev_go 2 (pc' := 182) (L' := [some (.inr (.inr 35))]) (S' := [.inl 3, .inr (.inr 35)]) (σ' := (SH L0, dput (dput D4 35 2 (D4 35 4)) 35 5 0)) (fun _ _ => rfl) hJ
            · refine ev_iff hc 2 (pc' := 181) (L' := [some (.inr (.inr 35))]) (S' := [.inr (.inr 35)]) (σ' := (SH L0, dput (dput D4 35 2 (D4 35 4)) 35 5 0)) (fun _ _ => rfl) ?_
              have he0 := Option.some.inj hv
              subst he0
              exact ev_go 1 (pc' := 182) (L' := [some (.inr (.inr 35))]) (S' := [.inl 4, .inr (.inr 35)]) (σ' := (SH L0, dput (dput D4 35 2 (D4 35 4)) 35 5 0)) (fun _ _ => rfl) hJ
          · refine ev_iff hc 2 (pc' := 155) (L' := [some (.inr (.inr 35))]) (S' := []) (σ' := (SH L0, dput (dput D4 35 2 (D4 35 4)) 35 5 0)) (fun _ _ => rfl) ?_
            obtain ⟨D12, hx, h⟩ := bnd h
            refine ev_call (e_X9_readNumber L0 d (by omega) hx) 2 (pc' := 159) (L' := [some (.inr (.inr 35))]) (S' := []) (fun _ _ => rfl) ?_
            cases h
            exact ev_ret 2 (fun _ _ => rfl)
      · refine ev_iff hc 2 (pc' := 106) (L' := [some (.inr (.inr 35))]) (S' := []) (σ' := (SH L0, dput (dput D4 35 2 (D4 35 4)) 35 5 0)) (fun _ _ => rfl) ?_
        obtain ⟨x13, hx, h⟩ := bnd h
        refine ev_bind hx 5 (pc' := 115) (L' := fun x13 => [some (.inr (.inr 35))]) (S' := fun x13 => [.inl x13]) (σ' := fun x13 => (SH L0, dput (dput D4 35 2 (D4 35 4)) 35 5 0)) (fun _ _ => rfl) ?_
        rcases ite_or h with ⟨hc, h⟩ | ⟨hc, h⟩
        · refine ev_ift hc 2 (pc' := 127) (L' := [some (.inr (.inr 35))]) (S' := []) (σ' := (SH L0, dput (dput D4 35 2 (D4 35 4)) 35 5 0)) (fun _ _ => rfl) ?_
          obtain ⟨x14, hx, h⟩ := bnd h
          refine ev_bind hx 5 (pc' := 136) (L' := fun x14 => [some (.inr (.inr 35))]) (S' := fun x14 => [.inl x14]) (σ' := fun x14 => (SH L0, dput (dput D4 35 2 (D4 35 4)) 35 5 0)) (fun _ _ => rfl) ?_
          rcases ite_or h with ⟨hc, h⟩ | ⟨hc, h⟩
          · refine ev_ift hc 2 (pc' := 162) (L' := [some (.inr (.inr 35))]) (S' := []) (σ' := (SH L0, dput (dput D4 35 2 (D4 35 4)) 35 5 0)) (fun _ _ => rfl) ?_
            obtain ⟨x15, hx, h⟩ := bnd h
            refine ev_bind hx 6 (pc' := 172) (L' := fun x15 => [some (.inr (.inr 35))]) (S' := fun x15 => [.inl x15, .inr (.inr 35)]) (σ' := fun x15 => (SH L0, dput (dput D4 35 2 (D4 35 4)) 35 5 0)) (fun _ _ => rfl) ?_
            obtain ⟨t16, hv, h⟩ := bnd h
            have hJ : EvF mtab d k_X9_next 182 [some (.inr (.inr 35))] [.inl t16, .inr (.inr 35)] (SH L0, dput (dput D4 35 2 (D4 35 4)) 35 5 0) (none, (SH L0, t0)) := by
              cases h
              exact ev_ret 8 (fun _ _ => rfl)
            clear h
            rcases ite_or hv with ⟨hc, hv⟩ | ⟨hc, hv⟩
            · refine ev_ift hc 2 (pc' := 177) (L' := [some (.inr (.inr 35))]) (S' := [.inr (.inr 35)]) (σ' := (SH L0, dput (dput D4 35 2 (D4 35 4)) 35 5 0)) (fun _ _ => rfl) ?_
              have he0 := Option.some.inj hv
              subst he0
              exact ev_go 2 (pc' := 182) (L' := [some (.inr (.inr 35))]) (S' := [.inl 3, .inr (.inr 35)]) (σ' := (SH L0, dput (dput D4 35 2 (D4 35 4)) 35 5 0)) (fun _ _ => rfl) hJ
            · refine ev_iff hc 2 (pc' := 181) (L' := [some (.inr (.inr 35))]) (S' := [.inr (.inr 35)]) (σ' := (SH L0, dput (dput D4 35 2 (D4 35 4)) 35 5 0)) (fun _ _ => rfl) ?_
              have he0 := Option.some.inj hv
              subst he0
              exact ev_go 1 (pc' := 182) (L' := [some (.inr (.inr 35))]) (S' := [.inl 4, .inr (.inr 35)]) (σ' := (SH L0, dput (dput D4 35 2 (D4 35 4)) 35 5 0)) (fun _ _ => rfl) hJ
          · refine ev_iff hc 2 (pc' := 141) (L' := [some (.inr (.inr 35))]) (S' := []) (σ' := (SH L0, dput (dput D4 35 2 (D4 35 4)) 35 5 0)) (fun _ _ => rfl) ?_
            obtain ⟨x17, hx, h⟩ := bnd h
            refine ev_bind hx 5 (pc' := 150) (L' := fun x17 => [some (.inr (.inr 35))]) (S' := fun x17 => [.inl x17]) (σ' := fun x17 => (SH L0, dput (dput D4 35 2 (D4 35 4)) 35 5 0)) (fun _ _ => rfl) ?_
            rcases ite_or h with ⟨hc, h⟩ | ⟨hc, h⟩
            · refine ev_ift hc 2 (pc' := 162) (L' := [some (.inr (.inr 35))]) (S' := []) (σ' := (SH L0, dput (dput D4 35 2 (D4 35 4)) 35 5 0)) (fun _ _ => rfl) ?_
              obtain ⟨x18, hx, h⟩ := bnd h
              refine ev_bind hx 6 (pc' := 172) (L' := fun x18 => [some (.inr (.inr 35))]) (S' := fun x18 => [.inl x18, .inr (.inr 35)]) (σ' := fun x18 => (SH L0, dput (dput D4 35 2 (D4 35 4)) 35 5 0)) (fun _ _ => rfl) ?_
              obtain ⟨t19, hv, h⟩ := bnd h
              have hJ : EvF mtab d k_X9_next 182 [some (.inr (.inr 35))] [.inl t19, .inr (.inr 35)] (SH L0, dput (dput D4 35 2 (D4 35 4)) 35 5 0) (none, (SH L0, t0)) := by
                cases h
                exact ev_ret 8 (fun _ _ => rfl)
              clear h
              rcases ite_or hv with ⟨hc, hv⟩ | ⟨hc, hv⟩
              · refine ev_ift hc 2 (pc' := 177) (L' := [some (.inr (.inr 35))]) (S' := [.inr (.inr 35)]) (σ' := (SH L0, dput (dput D4 35 2 (D4 35 4)) 35 5 0)) (fun _ _ => rfl) ?_
                have he0 := Option.some.inj hv
                subst he0
                exact ev_go 2 (pc' := 182) (L' := [some (.inr (.inr 35))]) (S' := [.inl 3, .inr (.inr 35)]) (σ' := (SH L0, dput (dput D4 35 2 (D4 35 4)) 35 5 0)) (fun _ _ => rfl) hJ
              · refine ev_iff hc 2 (pc' := 181) (L' := [some (.inr (.inr 35))]) (S' := [.inr (.inr 35)]) (σ' := (SH L0, dput (dput D4 35 2 (D4 35 4)) 35 5 0)) (fun _ _ => rfl) ?_
                have he0 := Option.some.inj hv
                subst he0
                exact ev_go 1 (pc' := 182) (L' := [some (.inr (.inr 35))]) (S' := [.inl 4, .inr (.inr 35)]) (σ' := (SH L0, dput (dput D4 35 2 (D4 35 4)) 35 5 0)) (fun _ _ => rfl) hJ
            · refine ev_iff hc 2 (pc' := 155) (L' := [some (.inr (.inr 35))]) (S' := []) (σ' := (SH L0, dput (dput D4 35 2 (D4 35 4)) 35 5 0)) (fun _ _ => rfl) ?_
              obtain ⟨D20, hx, h⟩ := bnd h
              refine ev_call (e_X9_readNumber L0 d (by omega) hx) 2 (pc' := 159) (L' := [some (.inr (.inr 35))]) (S' := []) (fun _ _ => rfl) ?_
              cases h
              exact ev_ret 2 (fun _ _ => rfl)
        · refine ev_iff hc 2 (pc' := 120) (L' := [some (.inr (.inr 35))]) (S' := []) (σ' := (SH L0, dput (dput D4 35 2 (D4 35 4)) 35 5 0)) (fun _ _ => rfl) ?_
          obtain ⟨D21, hx, h⟩ := bnd h
          refine ev_call (e_X9_readWord L0 d (by omega) hx) 2 (pc' := 124) (L' := [some (.inr (.inr 35))]) (S' := []) (fun _ _ => rfl) ?_
          cases h
          exact ev_ret 2 (fun _ _ => rfl)
    · refine ev_iff hc 12 (pc' := 84) (L' := [some (.inr (.inr 35))]) (S' := []) (σ' := (SH L0, dput (dput D4 35 2 (D4 35 4)) 35 5 0)) (fun _ _ => rfl) ?_
      cases h
      exact ev_ret 5 (fun _ _ => rfl)
  clear h
  refine ev_go 4 (pc' := 8) (L' := [some (.inr (.inr 35))]) (S' := []) (σ' := (SH L0, dput D 35 4 (D 35 2))) (fun _ _ => rfl) ?_
  refine loop_ind (P := fun s => EvF mtab d k_X9_next 8 [some (.inr (.inr 35))] [] (SH L0, s) (none, (SH L0, t0))) (X := fun r => EvF mtab d k_X9_next 60 [some (.inr (.inr 35))] [] (SH L0, r) (none, (SH L0, t0))) hr hX ?_
  clear hr hX
  intro s t hb hK0
  obtain ⟨D1, hre⟩ : ∃ q, q = s := ⟨s, rfl⟩
  subst hre
  show EvF mtab d k_X9_next 8 [some (.inr (.inr 35))] [] (SH L0, D1) (none, (SH L0, t0))
  unfold b_X9_next_8 at hb
  rcases ite_or hb with ⟨hc, hb⟩ | ⟨hc, hb⟩
  · refine ev_ift hc 5 (pc' := 19) (L' := [some (.inr (.inr 35))]) (S' := []) (σ' := (SH L0, D1)) (fun _ _ => rfl) ?_
    obtain ⟨x2, hx, hb⟩ := bnd hb
    refine ev_bind hx 5 (pc' := 28) (L' := fun x2 => [some (.inr (.inr 35))]) (S' := fun x2 => [.inl x2]) (σ' := fun x2 => (SH L0, D1)) (fun _ _ => rfl) ?_
    rcases ite_or hb with ⟨hc, hb⟩ | ⟨hc, hb⟩
    · refine ev_ift hc 2 (pc' := 47) (L' := [some (.inr (.inr 35))]) (S' := []) (σ' := (SH L0, D1)) (fun _ _ => rfl) ?_
      cases hb
      exact ev_go 7 (pc' := 8) (L' := [some (.inr (.inr 35))]) (S' := []) (σ' := (SH L0, dput D1 35 4 (w32 ((D1 35 4) + 1)))) (fun _ _ => rfl) hK0
    · refine ev_iff hc 2 (pc' := 33) (L' := [some (.inr (.inr 35))]) (S' := []) (σ' := (SH L0, D1)) (fun _ _ => rfl) ?_
      obtain ⟨x3, hx, hb⟩ := bnd hb
      refine ev_bind hx 5 (pc' := 42) (L' := fun x3 => [some (.inr (.inr 35))]) (S' := fun x3 => [.inl x3]) (σ' := fun x3 => (SH L0, D1)) (fun _ _ => rfl) ?_
      rcases ite_or hb with ⟨hc, hb⟩ | ⟨hc, hb⟩
      · refine ev_ift hc 2 (pc' := 47) (L' := [some (.inr (.inr 35))]) (S' := []) (σ' := (SH L0, D1)) (fun _ _ => rfl) ?_
        cases hb
        exact ev_go 7 (pc' := 8) (L' := [some (.inr (.inr 35))]) (S' := []) (σ' := (SH L0, dput D1 35 4 (w32 ((D1 35 4) + 1)))) (fun _ _ => rfl) hK0
      · refine ev_iff hc 2 (pc' := 60) (L' := [some (.inr (.inr 35))]) (S' := []) (σ' := (SH L0, D1)) (fun _ _ => rfl) ?_
        cases hb
        exact hK0
  · refine ev_iff hc 5 (pc' := 60) (L' := [some (.inr (.inr 35))]) (S' := []) (σ' := (SH L0, D1)) (fun _ _ => rfl) ?_
    cases hb
    exact hK0
set_option maxRecDepth 100000 in
set_option maxHeartbeats 4000000 in
theorem e_X8_passNumber (L0 d : Nat) (hd : 3 ≤ d) {p1 p2 : Int} {D : DT} {t0 : (Int × DT)} (h : m_X8_passNumber p1 p2 D = some t0) : Ret mtab d 102 [.inr (.inr 18), .inl p1, .inl p2] (SH L0, D) (some (.inl t0.1), (SH L0, t0.2)) := by
  obtain ⟨d, rfl⟩ : ∃ e, d = e + 1 := ⟨d - 1, by omega⟩
  refine Ret.of (code := k_X8_passNumber) (ml := 3) rfl ?_
  show EvF mtab d k_X8_passNumber 0 [some (.inr (.inr 18)), some (.inl p1), some (.inl p2)] [] (SH L0, D) (some (.inl t0.1), (SH L0, t0.2))
  unfold m_X8_passNumber at h
  rcases ite_or h with ⟨hc, h⟩ | ⟨hc, h⟩
  · refine ev_ift hc 5 (pc' := 17) (L' := [some (.inr (.inr 18)), some (.inl p1), some (.inl p2)]) (S' := []) (σ' := (SH L0, D)) (fun _ _ => rfl) ?_
    rcases ite_or h with ⟨hc, h⟩ | ⟨hc, h⟩
    · refine ev_ift hc 5 (pc' := 39) (L' := [some (.inr (.inr 18)), some (.inl p1), some (.inl p2)]) (S' := []) (σ' := (SH L0, D)) (fun _ _ => rfl) ?_
      obtain ⟨⟨x1, D2⟩, hx, h⟩ := bnd h
      refine ev_call (e_X8_refuseToken L0 d (by omega) hx) 3 (pc' := 44) (L' := [some (.inr (.inr 18)), some (.inl p1), some (.inl p2)]) (S' := []) (fun _ _ => rfl) ?_
      obtain ⟨x3, hx, h⟩ := bnd h
      cases h
      exact ev_brt hx 1 (fun _ _ => rfl)
    · refine ev_iff hc 5 (pc' := 28) (L' := [some (.inr (.inr 18)), some (.inl p1), some (.inl p2)]) (S' := []) (σ' := (SH L0, D)) (fun _ _ => rfl) ?_
      rcases ite_or h with ⟨hc, h⟩ | ⟨hc, h⟩
      · refine ev_ift hc 5 (pc' := 39) (L' := [some (.inr (.inr 18)), some (.inl p1), some (.inl p2)]) (S' := []) (σ' := (SH L0, D)) (fun _ _ => rfl) ?_
        obtain ⟨⟨x4, D5⟩, hx, h⟩ := bnd h
        refine ev_call (e_X8_refuseToken L0 d (by omega) hx) 3 (pc' := 44) (L' := [some (.inr (.inr 18)), some (.inl p1), some (.inl p2)]) (S' := []) (fun _ _ => rfl) ?_
        obtain ⟨x6, hx, h⟩ := bnd h
        cases h
        exact ev_brt hx 1 (fun _ _ => rfl)
      · refine ev_iff hc 5 (pc' := 45) (L' := [some (.inr (.inr 18)), some (.inl p1), some (.inl p2)]) (S' := []) (σ' := (SH L0, D)) (fun _ _ => rfl) ?_
        obtain ⟨D7, hx, h⟩ := bnd h
        refine ev_call (e_X9_next L0 d (by omega) hx) 8 (pc' := 63) (L' := [some (.inr (.inr 18)), some (.inl p1), some (.inl p2)]) (S' := []) (fun _ _ => rfl) ?_
        cases h
        exact ev_ret 2 (fun _ _ => rfl)
  · refine ev_iff hc 5 (pc' := 11) (L' := [some (.inr (.inr 18)), some (.inl p1), some (.inl p2)]) (S' := []) (σ' := (SH L0, D)) (fun _ _ => rfl) ?_
    obtain ⟨⟨x8, D9⟩, hx, h⟩ := bnd h
    refine ev_call (e_X8_refuseToken L0 d (by omega) hx) 3 (pc' := 16) (L' := [some (.inr (.inr 18)), some (.inl p1), some (.inl p2)]) (S' := []) (fun _ _ => rfl) ?_
    obtain ⟨x10, hx, h⟩ := bnd h
    cases h
    exact ev_brt hx 1 (fun _ _ => rfl)
set_option maxRecDepth 100000 in
set_option maxHeartbeats 4000000 in
theorem e_X8_passSign (L0 d : Nat) (hd : 3 ≤ d) {D : DT} {t0 : (Int × DT)} (h : m_X8_passSign  D = some t0) : Ret mtab d 103 [.inr (.inr 18)] (SH L0, D) (some (.inl t0.1), (SH L0, t0.2)) := by
  obtain ⟨d, rfl⟩ : ∃ e, d = e + 1 := ⟨d - 1, by omega⟩
  refine Ret.of (code := k_X8_passSign) (ml := 1) rfl ?_
  show EvF mtab d k_X8_passSign 0 [some (.inr (.inr 18))] [] (SH L0, D) (some (.inl t0.1), (SH L0, t0.2))
  unfold m_X8_passSign at h
  rcases ite_or h with ⟨hc, h⟩ | ⟨hc, h⟩
  · refine ev_ift hc 5 (pc' := 17) (L' := [some (.inr (.inr 18))]) (S' := []) (σ' := (SH L0, D)) (fun _ _ => rfl) ?_
    obtain ⟨D1, hx, h⟩ := bnd h
    refine ev_call (e_X9_next L0 d (by omega) hx) 3 (pc' := 24) (L' := [some (.inr (.inr 18))]) (S' := []) (fun _ _ => rfl) ?_
    cases h
    exact ev_ret 2 (fun _ _ => rfl)
  · refine ev_iff hc 5 (pc' := 11) (L' := [some (.inr (.inr 18))]) (S' := []) (σ' := (SH L0, D)) (fun _ _ => rfl) ?_
    obtain ⟨⟨x2, D3⟩, hx, h⟩ := bnd h
    refine ev_call (e_X8_refuseToken L0 d (by omega) hx) 3 (pc' := 16) (L' := [some (.inr (.inr 18))]) (S' := []) (fun _ _ => rfl) ?_
    obtain ⟨x4, hx, h⟩ := bnd h
    cases h
    exact ev_brt hx 1 (fun _ _ => rfl)
set_option maxRecDepth 100000 in
set_option maxHeartbeats 4000000 in
theorem e_X8_seekHolder (L0 d : Nat) (hd : 1 ≤ d) {D : DT} {t0 : Int} (h : m_X8_seekHolder  D = some t0) : Ret mtab d 107 [.inr (.inr 18)] (SH L0, D) (some (.inl t0), (SH L0, D)) := by
  obtain ⟨d, rfl⟩ : ∃ e, d = e + 1 := ⟨d - 1, by omega⟩
  refine Ret.of (code := k_X8_seekHolder) (ml := 2) rfl ?_
  show EvF mtab d k_X8_seekHolder 0 [some (.inr (.inr 18)), none] [] (SH L0, D) (some (.inl t0), (SH L0, D))
  unfold m_X8_seekHolder at h
  obtain ⟨r, hr, h⟩ := bnd h
  have hX : (fun (r : (Int ⊕ Unit)) => match r with | .inl r => (EvF mtab d k_X8_seekHolder 29 [some (.inr (.inr 18)), some (.inl r)] [] (SH L0, D) (some (.inl t0), (SH L0, D))) | .inr r => (∀ (o4 : Option (Sum Int Nat)), EvF mtab d k_X8_seekHolder 37 [some (.inr (.inr 18)), dv o4] [] (SH L0, D) (some (.inl t0), (SH L0, D)))) r := by
    rcases r with r | r
    · skip
      obtain ⟨l1_3, hre⟩ : ∃ q, q = r := ⟨r, rfl⟩
      subst hre
      show EvF mtab d k_X8_seekHolder 29 [some (.inr (.inr 18)), some (.inl l1_3)] [] (SH L0, D) (some (.inl t0), (SH L0, D))
      cases h
      exact ev_ret 2 (fun _ _ => rfl)
    intro o4
    show EvF mtab d k_X8_seekHolder 37 [some (.inr (.inr 18)), dv o4] [] (SH L0, D) (some (.inl t0), (SH L0, D))
    cases h
    exact ev_ret 2 (fun _ _ => rfl)
  clear h
  refine ev_go 2 (pc' := 2) (L' := [some (.inr (.inr 18)), some (.inl 0)]) (S' := []) (σ' := (SH L0, D)) (fun _ _ => rfl) ?_
  refine loop_ind (P := fun s => EvF mtab d k_X8_seekHolder 2 [some (.inr (.inr 18)), some (.inl s)] [] (SH L0, D) (some (.inl t0), (SH L0, D))) (X := fun r => match r with | .inl r => (EvF mtab d k_X8_seekHolder 29 [some (.inr (.inr 18)), some (.inl r)] [] (SH L0, D) (some (.inl t0), (SH L0, D))) | .inr r => (∀ (o4 : Option (Sum Int Nat)), EvF mtab d k_X8_seekHolder 37 [some (.inr (.inr 18)), dv o4] [] (SH L0, D) (some (.inl t0), (SH L0, D)))) hr hX ?_
  clear hr hX
  intro s t hb hK0
  obtain ⟨l1_1, hre⟩ : ∃ q, q = s := ⟨s, rfl⟩
  subst hre
  show EvF mtab d k_X8_seekHolder 2 [some (.inr (.inr 18)), some (.inl l1_1)] [] (SH L0, D) (some (.inl t0), (SH L0, D))
  unfold b_X8_seekHolder_2 at hb
  rcases ite_or hb with ⟨hc, hb⟩ | ⟨hc, hb⟩
  · refine ev_ift hc 5 (pc' := 13) (L' := [some (.inr (.inr 18)), some (.inl l1_1)]) (S' := []) (σ' := (SH L0, D)) (fun _ _ => rfl) ?_
    obtain ⟨x2, hx, hb⟩ := bnd hb
    refine ev_bind hx 4 (pc' := 19) (L' := fun x2 => [some (.inr (.inr 18)), some (.inl l1_1)]) (S' := fun x2 => [.inl x2]) (σ' := fun x2 => (SH L0, D)) (fun _ _ => rfl) ?_
    rcases ite_or hb with ⟨hc, hb⟩ | ⟨hc, hb⟩
    · refine ev_ift hc 4 (pc' := 29) (L' := [some (.inr (.inr 18)), some (.inl l1_1)]) (S' := []) (σ' := (SH L0, D)) (fun _ _ => rfl) ?_
      cases hb
      exact hK0
    · refine ev_iff hc 4 (pc' := 31) (L' := [some (.inr (.inr 18)), some (.inl l1_1)]) (S' := []) (σ' := (SH L0, D)) (fun _ _ => rfl) ?_
      cases hb
      exact ev_go 2 (pc' := 2) (L' := [some (.inr (.inr 18)), some (.inl (w32 (l1_1 + 1)))]) (S' := []) (σ' := (SH L0, D)) (fun _ _ => rfl) hK0
  · refine ev_iff hc 5 (pc' := 37) (L' := [some (.inr (.inr 18)), some (.inl l1_1)]) (S' := []) (σ' := (SH L0, D)) (fun _ _ => rfl) ?_
    cases hb
    exact hK0 (some (.inl l1_1))
set_option maxRecDepth 100000 in
set_option maxHeartbeats 4000000 in
theorem e_X9_isName (L0 d : Nat) (hd : 1 ≤ d) {D : DT} {t0 : Int} (h : m_X9_isName  D = some t0) : Ret mtab d 116 [.inr (.inr 35)] (SH L0, D) (some (.inl t0), (SH L0, D)) := by
  obtain ⟨d, rfl⟩ : ∃ e, d = e + 1 := ⟨d - 1, by omega⟩
  refine Ret.of (code := k_X9_isName) (ml := 1) rfl ?_
  show EvF mtab d k_X9_isName 0 [some (.inr (.inr 35))] [] (SH L0, D) (some (.inl t0), (SH L0, D))
  unfold m_X9_isName at h
  rcases ite_or h with ⟨hc, h⟩ | ⟨hc, h⟩
  · refine ev_ift hc 4 (pc' := 10) (L' := [some (.inr (.inr 35))]) (S' := []) (σ' := (SH L0, D)) (fun _ _ => rfl) ?_
    rcases ite_or h with ⟨hc0, h⟩ | ⟨hc0, h⟩
    · refine ev_lsw 3 (tgt := 120) (L' := [some (.inr (.inr 35))]) (S' := []) (σ' := (SH L0, D)) (fun _ _ => rfl) (fun g => by simp [lsw, hc0]) ?_
      cases h
      exact ev_ret 2 (fun _ _ => rfl)
    rcases ite_or h with ⟨hc1, h⟩ | ⟨hc1, h⟩
    · refine ev_lsw 3 (tgt := 120) (L' := [some (.inr (.inr 35))]) (S' := []) (σ' := (SH L0, D)) (fun _ _ => rfl) (fun g => by simp [lsw, hc0, hc1]) ?_
      cases h
      exact ev_ret 2 (fun _ _ => rfl)
    rcases ite_or h with ⟨hc2, h⟩ | ⟨hc2, h⟩
    · refine ev_lsw 3 (tgt := 120) (L' := [some (.inr (.inr 35))]) (S' := []) (σ' := (SH L0, D)) (fun _ _ => rfl) (fun g => by simp [lsw, hc0, hc1, hc2]) ?_
      cases h
      exact ev_ret 2 (fun _ _ => rfl)
    rcases ite_or h with ⟨hc3, h⟩ | ⟨hc3, h⟩
    · refine ev_lsw 3 (tgt := 120) (L' := [some (.inr (.inr 35))]) (S' := []) (σ' := (SH L0, D)) (fun _ _ => rfl) (fun g => by simp [lsw, hc0, hc1, hc2, hc3]) ?_
      cases h
      exact ev_ret 2 (fun _ _ => rfl)
    rcases ite_or h with ⟨hc4, h⟩ | ⟨hc4, h⟩
    · refine ev_lsw 3 (tgt := 120) (L' := [some (.inr (.inr 35))]) (S' := []) (σ' := (SH L0, D)) (fun _ _ => rfl) (fun g => by simp [lsw, hc0, hc1, hc2, hc3, hc4]) ?_
      cases h
      exact ev_ret 2 (fun _ _ => rfl)
    rcases ite_or h with ⟨hc5, h⟩ | ⟨hc5, h⟩
    · refine ev_lsw 3 (tgt := 120) (L' := [some (.inr (.inr 35))]) (S' := []) (σ' := (SH L0, D)) (fun _ _ => rfl) (fun g => by simp [lsw, hc0, hc1, hc2, hc3, hc4, hc5]) ?_
      cases h
      exact ev_ret 2 (fun _ _ => rfl)
    rcases ite_or h with ⟨hc6, h⟩ | ⟨hc6, h⟩
    · refine ev_lsw 3 (tgt := 120) (L' := [some (.inr (.inr 35))]) (S' := []) (σ' := (SH L0, D)) (fun _ _ => rfl) (fun g => by simp [lsw, hc0, hc1, hc2, hc3, hc4, hc5, hc6]) ?_
      cases h
      exact ev_ret 2 (fun _ _ => rfl)
    rcases ite_or h with ⟨hc7, h⟩ | ⟨hc7, h⟩
    · refine ev_lsw 3 (tgt := 120) (L' := [some (.inr (.inr 35))]) (S' := []) (σ' := (SH L0, D)) (fun _ _ => rfl) (fun g => by simp [lsw, hc0, hc1, hc2, hc3, hc4, hc5, hc6, hc7]) ?_
      cases h
      exact ev_ret 2 (fun _ _ => rfl)
    rcases ite_or h with ⟨hc8, h⟩ | ⟨hc8, h⟩
    · refine ev_lsw 3 (tgt := 120) (L' := [some (.inr (.inr 35))]) (S' := []) (σ' := (SH L0, D)) (fun _ _ => rfl) (fun g => by simp [lsw, hc0, hc1, hc2, hc3, hc4, hc5, hc6, hc7, hc8]) ?_
      cases h
      exact ev_ret 2 (fun _ _ => rfl)
    rcases ite_or h with ⟨hc9, h⟩ | ⟨hc9, h⟩
    · refine ev_lsw 3 (tgt := 120) (L' := [some (.inr (.inr 35))]) (S' := []) (σ' := (SH L0, D)) (fun _ _ => rfl) (fun g => by simp [lsw, hc0, hc1, hc2, hc3, hc4, hc5, hc6, hc7, hc8, hc9]) ?_
      cases h
      exact ev_ret 2 (fun _ _ => rfl)
    rcases ite_or h with ⟨hc10, h⟩ | ⟨hc10, h⟩
    · refine ev_lsw 3 (tgt := 120) (L' := [some (.inr (.inr 35))]) (S' := []) (σ' := (SH L0, D)) (fun _ _ => rfl) (fun g => by simp [lsw, hc0, hc1, hc2, hc3, hc4, hc5, hc6, hc7, hc8, hc9, hc10]) ?_
      cases h
      exact ev_ret 2 (fun _ _ => rfl)
    rcases ite_or h with ⟨hc11, h⟩ | ⟨hc11, h⟩
    · refine ev_lsw 3 (tgt := 120) (L' := [some (.inr (.inr 35))]) (S' := []) (σ' := (SH L0, D)) (fun _ _ => rfl) (fun g => by simp [lsw, hc0, hc1, hc2, hc3, hc4, hc5, hc6, hc7, hc8, hc9, hc10, hc11]) ?_
      cases h
      exact ev_ret 2 (fun _ _ => rfl)
    refine ev_lsw 3 (tgt := 122) (L' := [some (.inr (.inr 35))]) (S' := []) (σ' := (SH L0, D)) (fun _ _ => rfl) (fun g => by simp [lsw, hc0, hc1, hc2, hc3, hc4, hc5, hc6, hc7, hc8, hc9, hc10, hc11]) ?_
    cases h
    exact ev_ret 2 (fun _ _ => rfl)
  · refine ev_iff hc 4 (pc' := 8) (L' := [some (.inr (.inr 35))]) (S' := []) (σ' := (SH L0, D)) (fun _ _ => rfl) ?_
    cases h
    exact ev_ret 2 (fun _ _ => rfl)
set_option maxRecDepth 100000 in
set_option maxHeartbeats 4000000 in
theorem e_X8_passNewName (L0 d : Nat) (hd : 3 ≤ d) {D : DT} {t0 : (Int × DT)} (h : m_X8_passNewName  D = some t0) : Ret mtab d 104 [.inr (.inr 18)] (SH L0, D) (some (.inl t0.1), (SH L0, t0.2)) := by
  obtain ⟨d, rfl⟩ : ∃ e, d = e + 1 := ⟨d - 1, by omega⟩
  refine Ret.of (code := k_X8_passNewName) (ml := 1) rfl ?_
  show EvF mtab d k_X8_passNewName 0 [some (.inr (.inr 18))] [] (SH L0, D) (some (.inl t0.1), (SH L0, t0.2))
  unfold m_X8_passNewName at h
  obtain ⟨x1, hx, h⟩ := bnd h
  refine ev_call (e_X9_isName L0 d (by omega) hx) 3 (pc' := 7) (L' := [some (.inr (.inr 18))]) (S' := []) (fun _ _ => rfl) ?_
  rcases ite_or h with ⟨hc, h⟩ | ⟨hc, h⟩
  · refine ev_ift hc 1 (pc' := 10) (L' := [some (.inr (.inr 18))]) (S' := []) (σ' := (SH L0, D)) (fun _ _ => rfl) ?_
    obtain ⟨⟨x2, D3⟩, hx, h⟩ := bnd h
    refine ev_call (e_X8_refuseToken L0 d (by omega) hx) 3 (pc' := 15) (L' := [some (.inr (.inr 18))]) (S' := []) (fun _ _ => rfl) ?_
    obtain ⟨x4, hx, h⟩ := bnd h
    cases h
    exact ev_brt hx 1 (fun _ _ => rfl)
  · refine ev_iff hc 1 (pc' := 16) (L' := [some (.inr (.inr 18))]) (S' := []) (σ' := (SH L0, D)) (fun _ _ => rfl) ?_
    obtain ⟨x5, hx, h⟩ := bnd h
    refine ev_call (e_X8_seekHolder L0 d (by omega) hx) 2 (pc' := 20) (L' := [some (.inr (.inr 18))]) (S' := []) (fun _ _ => rfl) ?_
    rcases ite_or h with ⟨hc, h⟩ | ⟨hc, h⟩
    · refine ev_ift hc 2 (pc' := 24) (L' := [some (.inr (.inr 18))]) (S' := []) (σ' := (SH L0, D)) (fun _ _ => rfl) ?_
      rcases ite_or h with ⟨hc, h⟩ | ⟨hc, h⟩
      · refine ev_ift hc 5 (pc' := 42) (L' := [some (.inr (.inr 18))]) (S' := []) (σ' := (SH L0, D)) (fun _ _ => rfl) ?_
        obtain ⟨D6, hx, h⟩ := bnd h
        refine ev_bind hx 9 (pc' := 61) (L' := fun D6 => [some (.inr (.inr 18))]) (S' := fun D6 => []) (σ' := fun D6 => (SH L0, D6)) (fun _ _ => rfl) ?_
        obtain ⟨D7, hx, h⟩ := bnd h
        refine ev_call (e_X9_next L0 d (by omega) hx) 3 (pc' := 68) (L' := [some (.inr (.inr 18))]) (S' := []) (fun _ _ => rfl) ?_
        cases h
        exact ev_ret 2 (fun _ _ => rfl)
      · refine ev_iff hc 5 (pc' := 36) (L' := [some (.inr (.inr 18))]) (S' := []) (σ' := (SH L0, D)) (fun _ _ => rfl) ?_
        obtain ⟨⟨x8, D9⟩, hx, h⟩ := bnd h
        refine ev_call (e_X8_refuseToken L0 d (by omega) hx) 3 (pc' := 41) (L' := [some (.inr (.inr 18))]) (S' := []) (fun _ _ => rfl) ?_
        obtain ⟨x10, hx, h⟩ := bnd h
        cases h
        exact ev_brt hx 1 (fun _ _ => rfl)
    · refine ev_iff hc 2 (pc' := 36) (L' := [some (.inr (.inr 18))]) (S' := []) (σ' := (SH L0, D)) (fun _ _ => rfl) ?_
      obtain ⟨⟨x11, D12⟩, hx, h⟩ := bnd h
      refine ev_call (e_X8_refuseToken L0 d (by omega) hx) 3 (pc' := 41) (L' := [some (.inr (.inr 18))]) (S' := []) (fun _ _ => rfl) ?_
      obtain ⟨x13, hx, h⟩ := bnd h
      cases h
      exact ev_brt hx 1 (fun _ _ => rfl)
set_option maxRecDepth 100000 in
set_option maxHeartbeats 4000000 in
theorem e_X8_readFunction (L0 d : Nat) (hd : 4 ≤ d) {D : DT} {t0 : (Int × DT)} (h : m_X8_readFunction  D = some t0) : Ret mtab d 93 [.inr (.inr 18)] (SH L0, D) (some (.inl t0.1), (SH L0, t0.2)) := by
  obtain ⟨d, rfl⟩ : ∃ e, d = e + 1 := ⟨d - 1, by omega⟩
  refine Ret.of (code := k_X8_readFunction) (ml := 1) rfl ?_
  show EvF mtab d k_X8_readFunction 0 [some (.inr (.inr 18))] [] (SH L0, D) (some (.inl t0.1), (SH L0, t0.2))
  unfold m_X8_readFunction at h
  rcases ite_or h with ⟨hc, h⟩ | ⟨hc, h⟩
  · refine ev_ift hc 3 (pc' := 13) (L' := [some (.inr (.inr 18))]) (S' := []) (σ' := (SH L0, D)) (fun _ _ => rfl) ?_
    rcases ite_or h with ⟨hc, h⟩ | ⟨hc, h⟩
    · refine ev_ift hc 5 (pc' := 32) (L' := [some (.inr (.inr 18))]) (S' := []) (σ' := (SH L0, D)) (fun _ _ => rfl) ?_
      obtain ⟨D1, hx, h⟩ := bnd h
      refine ev_call (e_X9_next L0 d (by omega) hx) 3 (pc' := 39) (L' := [some (.inr (.inr 18))]) (S' := []) (fun _ _ => rfl) ?_
      obtain ⟨⟨x2, D3⟩, hx, h⟩ := bnd h
      refine ev_call (e_X8_passNewName L0 d (by omega) hx) 2 (pc' := 43) (L' := [some (.inr (.inr 18))]) (S' := []) (fun _ _ => rfl) ?_
      rcases ite_or h with ⟨hc, h⟩ | ⟨hc, h⟩
      · refine ev_ift hc 1 (pc' := 57) (L' := [some (.inr (.inr 18))]) (S' := []) (σ' := (SH L0, D3)) (fun _ _ => rfl) ?_
        cases h
        exact ev_ret 2 (fun _ _ => rfl)
      · refine ev_iff hc 1 (pc' := 46) (L' := [some (.inr (.inr 18))]) (S' := []) (σ' := (SH L0, D3)) (fun _ _ => rfl) ?_
        obtain ⟨⟨x4, D5⟩, hx, h⟩ := bnd h
        refine ev_call (e_X8_passNumber L0 d (by omega) hx) 4 (pc' := 54) (L' := [some (.inr (.inr 18))]) (S' := []) (fun _ _ => rfl) ?_
        rcases ite_or h with ⟨hc, h⟩ | ⟨hc, h⟩
        · refine ev_ift hc 1 (pc' := 57) (L' := [some (.inr (.inr 18))]) (S' := []) (σ' := (SH L0, D5)) (fun _ _ => rfl) ?_
          cases h
          exact ev_ret 2 (fun _ _ => rfl)
        · refine ev_iff hc 1 (pc' := 59) (L' := [some (.inr (.inr 18))]) (S' := []) (σ' := (SH L0, D5)) (fun _ _ => rfl) ?_
          obtain ⟨D6, hx, h⟩ := bnd h
          refine ev_call (e_X7_addFunction L0 d (by omega) hx) 5 (pc' := 70) (L' := [some (.inr (.inr 18))]) (S' := []) (fun _ _ => rfl) ?_
          obtain ⟨⟨x7, D8⟩, hx, h⟩ := bnd h
          refine ev_call (e_X8_passSign L0 d (by omega) hx) 2 (pc' := 74) (L' := [some (.inr (.inr 18))]) (S' := []) (fun _ _ => rfl) ?_
          obtain ⟨x9, hx, h⟩ := bnd h
          cases h
          exact ev_brt hx 1 (fun _ _ => rfl)
    · refine ev_iff hc 5 (pc' := 25) (L' := [some (.inr (.inr 18))]) (S' := []) (σ' := (SH L0, D)) (fun _ _ => rfl) ?_
      obtain ⟨⟨x10, D11⟩, hx, h⟩ := bnd h
      refine ev_call (e_X8_refuseToken L0 d (by omega) hx) 3 (pc' := 31) (L' := [some (.inr (.inr 18))]) (S' := []) (fun _ _ => rfl) ?_
      obtain ⟨x12, hx, h⟩ := bnd h
      cases h
      exact ev_brt hx 1 (fun _ _ => rfl)
  · refine ev_iff hc 3 (pc' := 7) (L' := [some (.inr (.inr 18))]) (S' := []) (σ' := (SH L0, D)) (fun _ _ => rfl) ?_
    obtain ⟨⟨x13, D14⟩, hx, h⟩ := bnd h
    refine ev_call (e_X8_refuseToken L0 d (by omega) hx) 3 (pc' := 12) (L' := [some (.inr (.inr 18))]) (S' := []) (fun _ _ => rfl) ?_
    obtain ⟨x15, hx, h⟩ := bnd h
    cases h
    exact ev_brt hx 1 (fun _ _ => rfl)
set_option maxRecDepth 100000 in
set_option maxHeartbeats 4000000 in
theorem e_X8_readSetting (L0 d : Nat) (hd : 4 ≤ d) {p1 : Int} {D : DT} {t0 : (Int × DT)} (h : m_X8_readSetting p1 D = some t0) : Ret mtab d 95 [.inr (.inr 18), .inl p1] (SH L0, D) (some (.inl t0.1), (SH L0, t0.2)) := by
  obtain ⟨d, rfl⟩ : ∃ e, d = e + 1 := ⟨d - 1, by omega⟩
  refine Ret.of (code := k_X8_readSetting) (ml := 2) rfl ?_
  show EvF mtab d k_X8_readSetting 0 [some (.inr (.inr 18)), some (.inl p1)] [] (SH L0, D) (some (.inl t0.1), (SH L0, t0.2))
  unfold m_X8_readSetting at h
  obtain ⟨x1, hx, h⟩ := bnd h
  refine ev_bind hx 4 (pc' := 6) (L' := fun x1 => [some (.inr (.inr 18)), some (.inl p1)]) (S' := fun x1 => [.inl x1]) (σ' := fun x1 => (SH L0, D)) (fun _ _ => rfl) ?_
  rcases ite_or h with ⟨hc, h⟩ | ⟨hc, h⟩
  · refine ev_ift hc 1 (pc' := 15) (L' := [some (.inr (.inr 18)), some (.inl p1)]) (S' := []) (σ' := (SH L0, D)) (fun _ _ => rfl) ?_
    obtain ⟨x2, hx, h⟩ := bnd h
    obtain ⟨D3, hy, h⟩ := bnd h
    refine ev_bind2 (Y := fun x2 => awr D 34 3 p1 x2) hx hy 5 (pc' := 22) (L' := fun x2 D3 => [some (.inr (.inr 18)), some (.inl p1)]) (S' := fun x2 D3 => []) (σ' := fun x2 D3 => (SH L0, D3)) (fun _ _ => rfl) ?_
    obtain ⟨D4, hx, h⟩ := bnd h
    refine ev_call (e_X9_next L0 d (by omega) hx) 3 (pc' := 29) (L' := [some (.inr (.inr 18)), some (.inl p1)]) (S' := []) (fun _ _ => rfl) ?_
    rcases ite_or h with ⟨hc, h⟩ | ⟨hc, h⟩
    · refine ev_ift hc 5 (pc' := 46) (L' := [some (.inr (.inr 18)), some (.inl p1)]) (S' := []) (σ' := (SH L0, D4)) (fun _ _ => rfl) ?_
      obtain ⟨x5, hx, h⟩ := bnd h
      refine ev_call (e_X7_canBe L0 d (by omega) hx) 5 (pc' := 57) (L' := [some (.inr (.inr 18)), some (.inl p1)]) (S' := []) (fun _ _ => rfl) ?_
      rcases ite_or h with ⟨hc, h⟩ | ⟨hc, h⟩
      · refine ev_ift hc 1 (pc' := 60) (L' := [some (.inr (.inr 18)), some (.inl p1)]) (S' := []) (σ' := (SH L0, D4)) (fun _ _ => rfl) ?_
        obtain ⟨⟨x6, D7⟩, hx, h⟩ := bnd h
        refine ev_call (e_X8_refuseToken L0 d (by omega) hx) 3 (pc' := 65) (L' := [some (.inr (.inr 18)), some (.inl p1)]) (S' := []) (fun _ _ => rfl) ?_
        obtain ⟨x8, hx, h⟩ := bnd h
        cases h
        exact ev_brt hx 1 (fun _ _ => rfl)
      · refine ev_iff hc 1 (pc' := 66) (L' := [some (.inr (.inr 18)), some (.inl p1)]) (S' := []) (σ' := (SH L0, D4)) (fun _ _ => rfl) ?_
        obtain ⟨D9, hx, h⟩ := bnd h
        refine ev_call (e_X7_change_19 L0 d (by omega) hx) 7 (pc' := 81) (L' := [some (.inr (.inr 18)), some (.inl p1)]) (S' := []) (fun _ _ => rfl) ?_
        obtain ⟨D10, hx, h⟩ := bnd h
        refine ev_call (e_X9_next L0 d (by omega) hx) 3 (pc' := 88) (L' := [some (.inr (.inr 18)), some (.inl p1)]) (S' := []) (fun _ _ => rfl) ?_
        obtain ⟨⟨x11, D12⟩, hx, h⟩ := bnd h
        refine ev_call (e_X8_passSign L0 d (by omega) hx) 2 (pc' := 92) (L' := [some (.inr (.inr 18)), some (.inl p1)]) (S' := []) (fun _ _ => rfl) ?_
        obtain ⟨x13, hx, h⟩ := bnd h
        cases h
        exact ev_brt hx 1 (fun _ _ => rfl)
    · refine ev_iff hc 5 (pc' := 40) (L' := [some (.inr (.inr 18)), some (.inl p1)]) (S' := []) (σ' := (SH L0, D4)) (fun _ _ => rfl) ?_
      obtain ⟨⟨x14, D15⟩, hx, h⟩ := bnd h
      refine ev_call (e_X8_refuseToken L0 d (by omega) hx) 3 (pc' := 45) (L' := [some (.inr (.inr 18)), some (.inl p1)]) (S' := []) (fun _ _ => rfl) ?_
      obtain ⟨x16, hx, h⟩ := bnd h
      cases h
      exact ev_brt hx 1 (fun _ _ => rfl)
  · refine ev_iff hc 1 (pc' := 9) (L' := [some (.inr (.inr 18)), some (.inl p1)]) (S' := []) (σ' := (SH L0, D)) (fun _ _ => rfl) ?_
    obtain ⟨⟨x17, D18⟩, hx, h⟩ := bnd h
    refine ev_call (e_X8_refuseToken L0 d (by omega) hx) 3 (pc' := 14) (L' := [some (.inr (.inr 18)), some (.inl p1)]) (S' := []) (fun _ _ => rfl) ?_
    obtain ⟨x19, hx, h⟩ := bnd h
    cases h
    exact ev_brt hx 1 (fun _ _ => rfl)
set_option maxRecDepth 100000 in
set_option maxHeartbeats 4000000 in
theorem e_X8_isHeldName (L0 d : Nat) (hd : 2 ≤ d) {D : DT} {t0 : (Int × DT)} (h : m_X8_isHeldName  D = some t0) : Ret mtab d 106 [.inr (.inr 18)] (SH L0, D) (some (.inl t0.1), (SH L0, t0.2)) := by
  obtain ⟨d, rfl⟩ : ∃ e, d = e + 1 := ⟨d - 1, by omega⟩
  refine Ret.of (code := k_X8_isHeldName) (ml := 1) rfl ?_
  show EvF mtab d k_X8_isHeldName 0 [some (.inr (.inr 18))] [] (SH L0, D) (some (.inl t0.1), (SH L0, t0.2))
  unfold m_X8_isHeldName at h
  obtain ⟨x1, hx, h⟩ := bnd h
  refine ev_call (e_X9_isName L0 d (by omega) hx) 3 (pc' := 7) (L' := [some (.inr (.inr 18))]) (S' := []) (fun _ _ => rfl) ?_
  rcases ite_or h with ⟨hc, h⟩ | ⟨hc, h⟩
  · refine ev_ift hc 1 (pc' := 10) (L' := [some (.inr (.inr 18))]) (S' := []) (σ' := (SH L0, D)) (fun _ _ => rfl) ?_
    obtain ⟨⟨x2, D3⟩, hx, h⟩ := bnd h
    refine ev_call (e_X8_refuseToken L0 d (by omega) hx) 3 (pc' := 15) (L' := [some (.inr (.inr 18))]) (S' := []) (fun _ _ => rfl) ?_
    obtain ⟨x4, hx, h⟩ := bnd h
    cases h
    exact ev_brt hx 1 (fun _ _ => rfl)
  · refine ev_iff hc 1 (pc' := 16) (L' := [some (.inr (.inr 18))]) (S' := []) (σ' := (SH L0, D)) (fun _ _ => rfl) ?_
    obtain ⟨x5, hx, h⟩ := bnd h
    refine ev_call (e_X8_seekHolder L0 d (by omega) hx) 3 (pc' := 21) (L' := [some (.inr (.inr 18))]) (S' := [.inr (.inr 18)]) (fun _ _ => rfl) ?_
    rcases ite_or h with ⟨hc, h⟩ | ⟨hc, h⟩
    · refine ev_ift hc 5 (pc' := 32) (L' := [some (.inr (.inr 18))]) (S' := []) (σ' := (SH L0, dput D 18 8 x5)) (fun _ _ => rfl) ?_
      obtain ⟨⟨x6, D7⟩, hx, h⟩ := bnd h
      refine ev_call (e_X8_refuseToken L0 d (by omega) hx) 3 (pc' := 37) (L' := [some (.inr (.inr 18))]) (S' := []) (fun _ _ => rfl) ?_
      rcases ite_or h with ⟨hc, h⟩ | ⟨hc, h⟩
      · refine ev_ift hc 1 (pc' := 44) (L' := [some (.inr (.inr 18))]) (S' := []) (σ' := (SH L0, D7)) (fun _ _ => rfl) ?_
        cases h
        exact ev_ret 2 (fun _ _ => rfl)
      · refine ev_iff hc 1 (pc' := 40) (L' := [some (.inr (.inr 18))]) (S' := []) (σ' := (SH L0, D7)) (fun _ _ => rfl) ?_
        cases h
        exact ev_ret 3 (fun _ _ => rfl)
    · refine ev_iff hc 5 (pc' := 40) (L' := [some (.inr (.inr 18))]) (S' := []) (σ' := (SH L0, dput D 18 8 x5)) (fun _ _ => rfl) ?_
      cases h
      exact ev_ret 3 (fun _ _ => rfl)
set_option maxRecDepth 100000 in
set_option maxHeartbeats 4000000 in
theorem e_X8_passTraced (L0 d : Nat) (hd : 3 ≤ d) {D : DT} {t0 : (Int × DT)} (h : m_X8_passTraced  D = some t0) : Ret mtab d 97 [.inr (.inr 18)] (SH L0, D) (some (.inl t0.1), (SH L0, t0.2)) := by
  obtain ⟨d, rfl⟩ : ∃ e, d = e + 1 := ⟨d - 1, by omega⟩
  refine Ret.of (code := k_X8_passTraced) (ml := 1) rfl ?_
  show EvF mtab d k_X8_passTraced 0 [some (.inr (.inr 18))] [] (SH L0, D) (some (.inl t0.1), (SH L0, t0.2))
  unfold m_X8_passTraced at h
  obtain ⟨⟨x1, D2⟩, hx, h⟩ := bnd h
  refine ev_call (e_X8_isHeldName L0 d (by omega) hx) 2 (pc' := 4) (L' := [some (.inr (.inr 18))]) (S' := []) (fun _ _ => rfl) ?_
  rcases ite_or h with ⟨hc, h⟩ | ⟨hc, h⟩
  · refine ev_ift hc 1 (pc' := 7) (L' := [some (.inr (.inr 18))]) (S' := []) (σ' := (SH L0, D2)) (fun _ _ => rfl) ?_
    cases h
    exact ev_ret 2 (fun _ _ => rfl)
  · refine ev_iff hc 1 (pc' := 9) (L' := [some (.inr (.inr 18))]) (S' := []) (σ' := (SH L0, D2)) (fun _ _ => rfl) ?_
    obtain ⟨x3, hx, h⟩ := bnd h
    refine ev_call (e_X7_placeInTrace_19 L0 d (by omega) hx) 5 (pc' := 20) (L' := [some (.inr (.inr 18))]) (S' := []) (fun _ _ => rfl) ?_
    rcases ite_or h with ⟨hc, h⟩ | ⟨hc, h⟩
    · refine ev_ift hc 2 (pc' := 24) (L' := [some (.inr (.inr 18))]) (S' := []) (σ' := (SH L0, D2)) (fun _ _ => rfl) ?_
      rcases ite_or h with ⟨hc, h⟩ | ⟨hc, h⟩
      · refine ev_ift hc 5 (pc' := 42) (L' := [some (.inr (.inr 18))]) (S' := []) (σ' := (SH L0, D2)) (fun _ _ => rfl) ?_
        obtain ⟨D4, hx, h⟩ := bnd h
        refine ev_bind hx 9 (pc' := 61) (L' := fun D4 => [some (.inr (.inr 18))]) (S' := fun D4 => []) (σ' := fun D4 => (SH L0, D4)) (fun _ _ => rfl) ?_
        obtain ⟨D5, hx, h⟩ := bnd h
        refine ev_call (e_X9_next L0 d (by omega) hx) 10 (pc' := 81) (L' := [some (.inr (.inr 18))]) (S' := []) (fun _ _ => rfl) ?_
        cases h
        exact ev_ret 2 (fun _ _ => rfl)
      · refine ev_iff hc 5 (pc' := 36) (L' := [some (.inr (.inr 18))]) (S' := []) (σ' := (SH L0, D2)) (fun _ _ => rfl) ?_
        obtain ⟨⟨x6, D7⟩, hx, h⟩ := bnd h
        refine ev_call (e_X8_refuseToken L0 d (by omega) hx) 3 (pc' := 41) (L' := [some (.inr (.inr 18))]) (S' := []) (fun _ _ => rfl) ?_
        obtain ⟨x8, hx, h⟩ := bnd h
        cases h
        exact ev_brt hx 1 (fun _ _ => rfl)
    · refine ev_iff hc 2 (pc' := 36) (L' := [some (.inr (.inr 18))]) (S' := []) (σ' := (SH L0, D2)) (fun _ _ => rfl) ?_
      obtain ⟨⟨x9, D10⟩, hx, h⟩ := bnd h
      refine ev_call (e_X8_refuseToken L0 d (by omega) hx) 3 (pc' := 41) (L' := [some (.inr (.inr 18))]) (S' := []) (fun _ _ => rfl) ?_
      obtain ⟨x11, hx, h⟩ := bnd h
      cases h
      exact ev_brt hx 1 (fun _ _ => rfl)
set_option maxRecDepth 100000 in
set_option maxHeartbeats 4000000 in
theorem e_X8_readTrace (L0 d : Nat) (hd : 4 ≤ d) {D : DT} {t0 : (Int × DT)} (h : m_X8_readTrace  D = some t0) : Ret mtab d 96 [.inr (.inr 18)] (SH L0, D) (some (.inl t0.1), (SH L0, t0.2)) := by
  obtain ⟨d, rfl⟩ : ∃ e, d = e + 1 := ⟨d - 1, by omega⟩
  refine Ret.of (code := k_X8_readTrace) (ml := 3) rfl ?_
  show EvF mtab d k_X8_readTrace 0 [some (.inr (.inr 18)), none, none] [] (SH L0, D) (some (.inl t0.1), (SH L0, t0.2))
  unfold m_X8_readTrace at h
  rcases ite_or h with ⟨hc, h⟩ | ⟨hc, h⟩
  · refine ev_ift hc 4 (pc' := 10) (L' := [some (.inr (.inr 18)), none, none]) (S' := []) (σ' := (SH L0, D)) (fun _ _ => rfl) ?_
    obtain ⟨⟨x1, D2⟩, hx, h⟩ := bnd h
    refine ev_call (e_X8_refuseToken L0 d (by omega) hx) 3 (pc' := 15) (L' := [some (.inr (.inr 18)), none, none]) (S' := []) (fun _ _ => rfl) ?_
    obtain ⟨x3, hx, h⟩ := bnd h
    cases h
    exact ev_brt hx 1 (fun _ _ => rfl)
  · refine ev_iff hc 4 (pc' := 16) (L' := [some (.inr (.inr 18)), none, none]) (S' := []) (σ' := (SH L0, D)) (fun _ _ => rfl) ?_
    obtain ⟨D4, hx, h⟩ := bnd h
    refine ev_call (e_X9_next L0 d (by omega) hx) 3 (pc' := 23) (L' := [some (.inr (.inr 18)), none, none]) (S' := []) (fun _ _ => rfl) ?_
    obtain ⟨⟨x5, D6⟩, hx, h⟩ := bnd h
    refine ev_call (e_X8_passTraced L0 d (by omega) hx) 2 (pc' := 27) (L' := [some (.inr (.inr 18)), none, none]) (S' := []) (fun _ _ => rfl) ?_
    obtain ⟨r, hr, h⟩ := bnd h
    have hX : (fun (r : (Int × DT)) => ∀ (o13 : Option (Sum Int Nat)), EvF mtab d k_X8_readTrace 62 [some (.inr (.inr 18)), some (.inl r.1), dv o13] [] (SH L0, r.2) (some (.inl t0.1), (SH L0, t0.2))) r := by
      obtain ⟨l1_12, D14⟩ := r
      intro o13
      show EvF mtab d k_X8_readTrace 62 [some (.inr (.inr 18)), some (.inl l1_12), dv o13] [] (SH L0, D14) (some (.inl t0.1), (SH L0, t0.2))
      rcases ite_or h with ⟨hc, h⟩ | ⟨hc, h⟩
      · refine ev_ift hc 2 (pc' := 77) (L' := [some (.inr (.inr 18)), some (.inl l1_12), dv o13]) (S' := []) (σ' := (SH L0, D14)) (fun _ _ => rfl) ?_
        cases h
        exact ev_ret 2 (fun _ _ => rfl)
      · refine ev_iff hc 2 (pc' := 66) (L' := [some (.inr (.inr 18)), some (.inl l1_12), dv o13]) (S' := []) (σ' := (SH L0, D14)) (fun _ _ => rfl) ?_
        obtain ⟨⟨x15, D16⟩, hx, h⟩ := bnd h
        refine ev_call (e_X8_passSign L0 d (by omega) hx) 2 (pc' := 70) (L' := [some (.inr (.inr 18)), some (.inl l1_12), dv o13]) (S' := []) (fun _ _ => rfl) ?_
        rcases ite_or h with ⟨hc, h⟩ | ⟨hc, h⟩
        · refine ev_ift hc 1 (pc' := 77) (L' := [some (.inr (.inr 18)), some (.inl l1_12), dv o13]) (S' := []) (σ' := (SH L0, D16)) (fun _ _ => rfl) ?_
          cases h
          exact ev_ret 2 (fun _ _ => rfl)
        · refine ev_iff hc 1 (pc' := 73) (L' := [some (.inr (.inr 18)), some (.inl l1_12), dv o13]) (S' := []) (σ' := (SH L0, D16)) (fun _ _ => rfl) ?_
          cases h
          exact ev_ret 3 (fun _ _ => rfl)
    clear h
    refine ev_go 3 (pc' := 30) (L' := [some (.inr (.inr 18)), some (.inl x5), some (.inl 0)]) (S' := []) (σ' := (SH L0, D6)) (fun _ _ => rfl) ?_
    refine loop_ind (P := fun s => EvF mtab d k_X8_readTrace 30 [some (.inr (.inr 18)), some (.inl s.1), some (.inl s.2.1)] [] (SH L0, s.2.2) (some (.inl t0.1), (SH L0, t0.2))) (X := fun r => ∀ (o13 : Option (Sum Int Nat)), EvF mtab d k_X8_readTrace 62 [some (.inr (.inr 18)), some (.inl r.1), dv o13] [] (SH L0, r.2) (some (.inl t0.1), (SH L0, t0.2))) hr hX ?_
    clear hr hX
    intro s t hb hK0
    obtain ⟨l1_7, l2_8, D9⟩ := s
    show EvF mtab d k_X8_readTrace 30 [some (.inr (.inr 18)), some (.inl l1_7), some (.inl l2_8)] [] (SH L0, D9) (some (.inl t0.1), (SH L0, t0.2))
    unfold b_X8_readTrace_30 at hb
    rcases ite_or hb with ⟨hc, hb⟩ | ⟨hc, hb⟩
    · refine ev_ift hc 3 (pc' := 36) (L' := [some (.inr (.inr 18)), some (.inl l1_7), some (.inl l2_8)]) (S' := []) (σ' := (SH L0, D9)) (fun _ _ => rfl) ?_
      rcases ite_or hb with ⟨hc, hb⟩ | ⟨hc, hb⟩
      · refine ev_ift hc 2 (pc' := 62) (L' := [some (.inr (.inr 18)), some (.inl l1_7), some (.inl l2_8)]) (S' := []) (σ' := (SH L0, D9)) (fun _ _ => rfl) ?_
        cases hb
        exact hK0 (some (.inl l2_8))
      · refine ev_iff hc 2 (pc' := 40) (L' := [some (.inr (.inr 18)), some (.inl l1_7), some (.inl l2_8)]) (S' := []) (σ' := (SH L0, D9)) (fun _ _ => rfl) ?_
        rcases ite_or hb with ⟨hc, hb⟩ | ⟨hc, hb⟩
        · refine ev_ift hc 5 (pc' := 62) (L' := [some (.inr (.inr 18)), some (.inl l1_7), some (.inl l2_8)]) (S' := []) (σ' := (SH L0, D9)) (fun _ _ => rfl) ?_
          cases hb
          exact hK0 (some (.inl l2_8))
        · refine ev_iff hc 5 (pc' := 51) (L' := [some (.inr (.inr 18)), some (.inl l1_7), some (.inl l2_8)]) (S' := []) (σ' := (SH L0, D9)) (fun _ _ => rfl) ?_
          obtain ⟨⟨x10, D11⟩, hx, hb⟩ := bnd hb
          refine ev_call (e_X8_passTraced L0 d (by omega) hx) 2 (pc' := 55) (L' := [some (.inr (.inr 18)), some (.inl l1_7), some (.inl l2_8)]) (S' := []) (fun _ _ => rfl) ?_
          cases hb
          exact ev_go 3 (pc' := 30) (L' := [some (.inr (.inr 18)), some (.inl x10), some (.inl (w32 (l2_8 + 1)))]) (S' := []) (σ' := (SH L0, D11)) (fun _ _ => rfl) hK0
    · refine ev_iff hc 3 (pc' := 62) (L' := [some (.inr (.inr 18)), some (.inl l1_7), some (.inl l2_8)]) (S' := []) (σ' := (SH L0, D9)) (fun _ _ => rfl) ?_
      cases hb
      exact hK0 (some (.inl l2_8))
set_option maxRecDepth 100000 in
set_option maxHeartbeats 4000000 in
theorem e_X9_isWord (L0 d : Nat) (hd : 1 ≤ d) {p1 : Int} {D : DT} {t0 : Int} (h : m_X9_isWord p1 D = some t0) : Ret mtab d 115 [.inr (.inr 35), .inl p1] (SH L0, D) (some (.inl t0), (SH L0, D)) := by
  obtain ⟨d, rfl⟩ : ∃ e, d = e + 1 := ⟨d - 1, by omega⟩
  refine Ret.of (code := k_X9_isWord) (ml := 2) rfl ?_
  show EvF mtab d k_X9_isWord 0 [some (.inr (.inr 35)), some (.inl p1)] [] (SH L0, D) (some (.inl t0), (SH L0, D))
  unfold m_X9_isWord at h
  rcases ite_or h with ⟨hc, h⟩ | ⟨hc, h⟩
  · refine ev_ift hc 4 (pc' := 8) (L' := [some (.inr (.inr 35)), some (.inl p1)]) (S' := []) (σ' := (SH L0, D)) (fun _ _ => rfl) ?_
    rcases ite_or h with ⟨hc, h⟩ | ⟨hc, h⟩
    · refine ev_ift hc 4 (pc' := 16) (L' := [some (.inr (.inr 35)), some (.inl p1)]) (S' := []) (σ' := (SH L0, D)) (fun _ _ => rfl) ?_
      cases h
      exact ev_ret 3 (fun _ _ => rfl)
    · refine ev_iff hc 4 (pc' := 20) (L' := [some (.inr (.inr 35)), some (.inl p1)]) (S' := []) (σ' := (SH L0, D)) (fun _ _ => rfl) ?_
      cases h
      exact ev_ret 2 (fun _ _ => rfl)
  · refine ev_iff hc 4 (pc' := 20) (L' := [some (.inr (.inr 35)), some (.inl p1)]) (S' := []) (σ' := (SH L0, D)) (fun _ _ => rfl) ?_
    cases h
    exact ev_ret 2 (fun _ _ => rfl)
set_option maxRecDepth 100000 in
set_option maxHeartbeats 4000000 in
theorem e_X8_readOther (L0 d : Nat) (hd : 5 ≤ d) {D : DT} {t0 : (Int × DT)} (h : m_X8_readOther  D = some t0) : Ret mtab d 94 [.inr (.inr 18)] (SH L0, D) (some (.inl t0.1), (SH L0, t0.2)) := by
  obtain ⟨d, rfl⟩ : ∃ e, d = e + 1 := ⟨d - 1, by omega⟩
  refine Ret.of (code := k_X8_readOther) (ml := 1) rfl ?_
  show EvF mtab d k_X8_readOther 0 [some (.inr (.inr 18))] [] (SH L0, D) (some (.inl t0.1), (SH L0, t0.2))
  unfold m_X8_readOther at h
  obtain ⟨x1, hx, h⟩ := bnd h
  refine ev_call (e_X9_isWord L0 d (by omega) hx) 4 (pc' := 9) (L' := [some (.inr (.inr 18))]) (S' := []) (fun _ _ => rfl) ?_
  rcases ite_or h with ⟨hc, h⟩ | ⟨hc, h⟩
  · refine ev_ift hc 1 (pc' := 18) (L' := [some (.inr (.inr 18))]) (S' := []) (σ' := (SH L0, D)) (fun _ _ => rfl) ?_
    obtain ⟨x2, hx, h⟩ := bnd h
    refine ev_call (e_X9_isWord L0 d (by omega) hx) 4 (pc' := 27) (L' := [some (.inr (.inr 18))]) (S' := []) (fun _ _ => rfl) ?_
    rcases ite_or h with ⟨hc, h⟩ | ⟨hc, h⟩
    · refine ev_ift hc 1 (pc' := 36) (L' := [some (.inr (.inr 18))]) (S' := []) (σ' := (SH L0, D)) (fun _ _ => rfl) ?_
      obtain ⟨x3, hx, h⟩ := bnd h
      refine ev_call (e_X9_isWord L0 d (by omega) hx) 4 (pc' := 45) (L' := [some (.inr (.inr 18))]) (S' := []) (fun _ _ => rfl) ?_
      rcases ite_or h with ⟨hc, h⟩ | ⟨hc, h⟩
      · refine ev_ift hc 1 (pc' := 54) (L' := [some (.inr (.inr 18))]) (S' := []) (σ' := (SH L0, D)) (fun _ _ => rfl) ?_
        obtain ⟨x4, hx, h⟩ := bnd h
        refine ev_call (e_X9_isWord L0 d (by omega) hx) 4 (pc' := 63) (L' := [some (.inr (.inr 18))]) (S' := []) (fun _ _ => rfl) ?_
        rcases ite_or h with ⟨hc, h⟩ | ⟨hc, h⟩
        · refine ev_ift hc 1 (pc' := 73) (L' := [some (.inr (.inr 18))]) (S' := []) (σ' := (SH L0, D)) (fun _ _ => rfl) ?_
          obtain ⟨⟨x5, D6⟩, hx, h⟩ := bnd h
          refine ev_call (e_X8_refuseToken L0 d (by omega) hx) 3 (pc' := 78) (L' := [some (.inr (.inr 18))]) (S' := []) (fun _ _ => rfl) ?_
          obtain ⟨x7, hx, h⟩ := bnd h
          cases h
          exact ev_brt hx 1 (fun _ _ => rfl)
        · refine ev_iff hc 1 (pc' := 66) (L' := [some (.inr (.inr 18))]) (S' := []) (σ' := (SH L0, D)) (fun _ _ => rfl) ?_
          obtain ⟨⟨x8, D9⟩, hx, h⟩ := bnd h
          refine ev_call (e_X8_readTrace L0 d (by omega) hx) 2 (pc' := 70) (L' := [some (.inr (.inr 18))]) (S' := []) (fun _ _ => rfl) ?_
          obtain ⟨x10, hx, h⟩ := bnd h
          cases h
          exact ev_brt hx 2 (fun _ _ => rfl)
      · refine ev_iff hc 1 (pc' := 48) (L' := [some (.inr (.inr 18))]) (S' := []) (σ' := (SH L0, D)) (fun _ _ => rfl) ?_
        obtain ⟨⟨x11, D12⟩, hx, h⟩ := bnd h
        refine ev_call (e_X8_readSetting L0 d (by omega) hx) 3 (pc' := 53) (L' := [some (.inr (.inr 18))]) (S' := []) (fun _ _ => rfl) ?_
        obtain ⟨x13, hx, h⟩ := bnd h
        cases h
        exact ev_brt hx 1 (fun _ _ => rfl)
    · refine ev_iff hc 1 (pc' := 30) (L' := [some (.inr (.inr 18))]) (S' := []) (σ' := (SH L0, D)) (fun _ _ => rfl) ?_
      obtain ⟨⟨x14, D15⟩, hx, h⟩ := bnd h
      refine ev_call (e_X8_readSetting L0 d (by omega) hx) 3 (pc' := 35) (L' := [some (.inr (.inr 18))]) (S' := []) (fun _ _ => rfl) ?_
      obtain ⟨x16, hx, h⟩ := bnd h
      cases h
      exact ev_brt hx 1 (fun _ _ => rfl)
  · refine ev_iff hc 1 (pc' := 12) (L' := [some (.inr (.inr 18))]) (S' := []) (σ' := (SH L0, D)) (fun _ _ => rfl) ?_
    obtain ⟨⟨x17, D18⟩, hx, h⟩ := bnd h
    refine ev_call (e_X8_readSetting L0 d (by omega) hx) 3 (pc' := 17) (L' := [some (.inr (.inr 18))]) (S' := []) (fun _ _ => rfl) ?_
    obtain ⟨x19, hx, h⟩ := bnd h
    cases h
    exact ev_brt hx 1 (fun _ _ => rfl)
set_option maxRecDepth 100000 in
set_option maxHeartbeats 4000000 in
theorem e_X8_passHeldName (L0 d : Nat) (hd : 3 ≤ d) {D : DT} {t0 : (Int × DT)} (h : m_X8_passHeldName  D = some t0) : Ret mtab d 105 [.inr (.inr 18)] (SH L0, D) (some (.inl t0.1), (SH L0, t0.2)) := by
  obtain ⟨d, rfl⟩ : ∃ e, d = e + 1 := ⟨d - 1, by omega⟩
  refine Ret.of (code := k_X8_passHeldName) (ml := 1) rfl ?_
  show EvF mtab d k_X8_passHeldName 0 [some (.inr (.inr 18))] [] (SH L0, D) (some (.inl t0.1), (SH L0, t0.2))
  unfold m_X8_passHeldName at h
  obtain ⟨⟨x1, D2⟩, hx, h⟩ := bnd h
  refine ev_call (e_X8_isHeldName L0 d (by omega) hx) 2 (pc' := 4) (L' := [some (.inr (.inr 18))]) (S' := []) (fun _ _ => rfl) ?_
  rcases ite_or h with ⟨hc, h⟩ | ⟨hc, h⟩
  · refine ev_ift hc 1 (pc' := 7) (L' := [some (.inr (.inr 18))]) (S' := []) (σ' := (SH L0, D2)) (fun _ _ => rfl) ?_
    cases h
    exact ev_ret 2 (fun _ _ => rfl)
  · refine ev_iff hc 1 (pc' := 9) (L' := [some (.inr (.inr 18))]) (S' := []) (σ' := (SH L0, D2)) (fun _ _ => rfl) ?_
    obtain ⟨D3, hx, h⟩ := bnd h
    refine ev_call (e_X9_next L0 d (by omega) hx) 3 (pc' := 16) (L' := [some (.inr (.inr 18))]) (S' := []) (fun _ _ => rfl) ?_
    cases h
    exact ev_ret 2 (fun _ _ => rfl)
set_option maxRecDepth 100000 in
set_option maxHeartbeats 4000000 in
theorem e_X8_readCalls (L0 d : Nat) (hd : 4 ≤ d) {p1 : Int} {D : DT} {t0 : (Int × DT)} (h : m_X8_readCalls p1 D = some t0) : Ret mtab d 99 [.inr (.inr 18), .inl p1] (SH L0, D) (some (.inl t0.1), (SH L0, t0.2)) := by
  obtain ⟨d, rfl⟩ : ∃ e, d = e + 1 := ⟨d - 1, by omega⟩
  refine Ret.of (code := k_X8_readCalls) (ml := 3) rfl ?_
  show EvF mtab d k_X8_readCalls 0 [some (.inr (.inr 18)), some (.inl p1), none] [] (SH L0, D) (some (.inl t0.1), (SH L0, t0.2))
  unfold m_X8_readCalls at h
  obtain ⟨r, hr, h⟩ := bnd h
  have hX : (fun (r : (DT ⊕ (DT ⊕ DT))) => match r with | .inl r => (∀ (o8 : Option (Sum Int Nat)), EvF mtab d k_X8_readCalls 24 [some (.inr (.inr 18)), some (.inl p1), dv o8] [] (SH L0, r) (some (.inl t0.1), (SH L0, t0.2))) | .inr r => (match r with | .inl r => (∀ (o13 : Option (Sum Int Nat)), EvF mtab d k_X8_readCalls 45 [some (.inr (.inr 18)), some (.inl p1), dv o13] [] (SH L0, r) (some (.inl t0.1), (SH L0, t0.2))) | .inr r => (∀ (o15 : Option (Sum Int Nat)), EvF mtab d k_X8_readCalls 70 [some (.inr (.inr 18)), some (.inl p1), dv o15] [] (SH L0, r) (some (.inl t0.1), (SH L0, t0.2))))) r := by
    rcases r with r | r
    · skip
      obtain ⟨D9, hre⟩ : ∃ q, q = r := ⟨r, rfl⟩
      subst hre
      intro o8
      show EvF mtab d k_X8_readCalls 24 [some (.inr (.inr 18)), some (.inl p1), dv o8] [] (SH L0, D9) (some (.inl t0.1), (SH L0, t0.2))
      obtain ⟨⟨x10, D11⟩, hx, h⟩ := bnd h
      refine ev_call (e_X8_refuseToken L0 d (by omega) hx) 3 (pc' := 30) (L' := [some (.inr (.inr 18)), some (.inl p1), dv o8]) (S' := []) (fun _ _ => rfl) ?_
      obtain ⟨x12, hx, h⟩ := bnd h
      cases h
      exact ev_brt hx 1 (fun _ _ => rfl)
    rcases r with r | r
    · skip
      obtain ⟨D14, hre⟩ : ∃ q, q = r := ⟨r, rfl⟩
      subst hre
      intro o13
      show EvF mtab d k_X8_readCalls 45 [some (.inr (.inr 18)), some (.inl p1), dv o13] [] (SH L0, D14) (some (.inl t0.1), (SH L0, t0.2))
      cases h
      exact ev_ret 2 (fun _ _ => rfl)
    obtain ⟨D16, hre⟩ : ∃ q, q = r := ⟨r, rfl⟩
    subst hre
    intro o15
    show EvF mtab d k_X8_readCalls 70 [some (.inr (.inr 18)), some (.inl p1), dv o15] [] (SH L0, D16) (some (.inl t0.1), (SH L0, t0.2))
    cases h
    exact ev_ret 2 (fun _ _ => rfl)
  clear h
  refine ev_go 2 (pc' := 2) (L' := [some (.inr (.inr 18)), some (.inl p1), some (.inl 0)]) (S' := []) (σ' := (SH L0, D)) (fun _ _ => rfl) ?_
  refine loop_ind (P := fun s => EvF mtab d k_X8_readCalls 2 [some (.inr (.inr 18)), some (.inl p1), some (.inl s.1)] [] (SH L0, s.2) (some (.inl t0.1), (SH L0, t0.2))) (X := fun r => match r with | .inl r => (∀ (o8 : Option (Sum Int Nat)), EvF mtab d k_X8_readCalls 24 [some (.inr (.inr 18)), some (.inl p1), dv o8] [] (SH L0, r) (some (.inl t0.1), (SH L0, t0.2))) | .inr r => (match r with | .inl r => (∀ (o13 : Option (Sum Int Nat)), EvF mtab d k_X8_readCalls 45 [some (.inr (.inr 18)), some (.inl p1), dv o13] [] (SH L0, r) (some (.inl t0.1), (SH L0, t0.2))) | .inr r => (∀ (o15 : Option (Sum Int Nat)), EvF mtab d k_X8_readCalls 70 [some (.inr (.inr 18)), some (.inl p1), dv o15] [] (SH L0, r) (some (.inl t0.1), (SH L0, t0.2))))) hr hX ?_
  clear hr hX
  intro s t hb hK0
  obtain ⟨l2_1, D2⟩ := s
  show EvF mtab d k_X8_readCalls 2 [some (.inr (.inr 18)), some (.inl p1), some (.inl l2_1)] [] (SH L0, D2) (some (.inl t0.1), (SH L0, t0.2))
  unfold b_X8_readCalls_2 at hb
  rcases ite_or hb with ⟨hc, hb⟩ | ⟨hc, hb⟩
  · refine ev_ift hc 3 (pc' := 70) (L' := [some (.inr (.inr 18)), some (.inl p1), some (.inl l2_1)]) (S' := []) (σ' := (SH L0, D2)) (fun _ _ => rfl) ?_
    cases hb
    exact hK0 (some (.inl l2_1))
  · refine ev_iff hc 3 (pc' := 7) (L' := [some (.inr (.inr 18)), some (.inl p1), some (.inl l2_1)]) (S' := []) (σ' := (SH L0, D2)) (fun _ _ => rfl) ?_
    obtain ⟨x3, hx, hb⟩ := bnd hb
    refine ev_call (e_X9_isWord L0 d (by omega) hx) 4 (pc' := 16) (L' := [some (.inr (.inr 18)), some (.inl p1), some (.inl l2_1)]) (S' := []) (fun _ _ => rfl) ?_
    rcases ite_or hb with ⟨hc, hb⟩ | ⟨hc, hb⟩
    · refine ev_ift hc 1 (pc' := 70) (L' := [some (.inr (.inr 18)), some (.inl p1), some (.inl l2_1)]) (S' := []) (σ' := (SH L0, D2)) (fun _ _ => rfl) ?_
      cases hb
      exact hK0 (some (.inl l2_1))
    · refine ev_iff hc 1 (pc' := 19) (L' := [some (.inr (.inr 18)), some (.inl p1), some (.inl l2_1)]) (S' := []) (σ' := (SH L0, D2)) (fun _ _ => rfl) ?_
      rcases ite_or hb with ⟨hc, hb⟩ | ⟨hc, hb⟩
      · refine ev_ift hc 3 (pc' := 24) (L' := [some (.inr (.inr 18)), some (.inl p1), some (.inl l2_1)]) (S' := []) (σ' := (SH L0, D2)) (fun _ _ => rfl) ?_
        cases hb
        exact hK0 (some (.inl l2_1))
      · refine ev_iff hc 3 (pc' := 31) (L' := [some (.inr (.inr 18)), some (.inl p1), some (.inl l2_1)]) (S' := []) (σ' := (SH L0, D2)) (fun _ _ => rfl) ?_
        obtain ⟨D4, hx, hb⟩ := bnd hb
        refine ev_call (e_X9_next L0 d (by omega) hx) 3 (pc' := 38) (L' := [some (.inr (.inr 18)), some (.inl p1), some (.inl l2_1)]) (S' := []) (fun _ _ => rfl) ?_
        obtain ⟨⟨x5, D6⟩, hx, hb⟩ := bnd hb
        refine ev_call (e_X8_passHeldName L0 d (by omega) hx) 2 (pc' := 42) (L' := [some (.inr (.inr 18)), some (.inl p1), some (.inl l2_1)]) (S' := []) (fun _ _ => rfl) ?_
        rcases ite_or hb with ⟨hc, hb⟩ | ⟨hc, hb⟩
        · refine ev_ift hc 1 (pc' := 45) (L' := [some (.inr (.inr 18)), some (.inl p1), some (.inl l2_1)]) (S' := []) (σ' := (SH L0, D6)) (fun _ _ => rfl) ?_
          cases hb
          exact hK0 (some (.inl l2_1))
        · refine ev_iff hc 1 (pc' := 47) (L' := [some (.inr (.inr 18)), some (.inl p1), some (.inl l2_1)]) (S' := []) (σ' := (SH L0, D6)) (fun _ _ => rfl) ?_
          obtain ⟨D7, hx, hb⟩ := bnd hb
          refine ev_bind hx 11 (pc' := 64) (L' := fun D7 => [some (.inr (.inr 18)), some (.inl p1), some (.inl l2_1)]) (S' := fun D7 => []) (σ' := fun D7 => (SH L0, D7)) (fun _ _ => rfl) ?_
          cases hb
          exact ev_go 2 (pc' := 2) (L' := [some (.inr (.inr 18)), some (.inl p1), some (.inl (w32 (l2_1 + 1)))]) (S' := []) (σ' := (SH L0, D7)) (fun _ _ => rfl) hK0
set_option maxRecDepth 100000 in
set_option maxHeartbeats 4000000 in
theorem e_X8_readWay (L0 d : Nat) (hd : 4 ≤ d) {p1 : Int} {D : DT} {t0 : (Int × DT)} (h : m_X8_readWay p1 D = some t0) : Ret mtab d 101 [.inr (.inr 18), .inl p1] (SH L0, D) (some (.inl t0.1), (SH L0, t0.2)) := by
  obtain ⟨d, rfl⟩ : ∃ e, d = e + 1 := ⟨d - 1, by omega⟩
  refine Ret.of (code := k_X8_readWay) (ml := 3) rfl ?_
  show EvF mtab d k_X8_readWay 0 [some (.inr (.inr 18)), some (.inl p1), none] [] (SH L0, D) (some (.inl t0.1), (SH L0, t0.2))
  unfold m_X8_readWay at h
  obtain ⟨D1, hx, h⟩ := bnd h
  refine ev_call (e_X9_next L0 d (by omega) hx) 3 (pc' := 7) (L' := [some (.inr (.inr 18)), some (.inl p1), none]) (S' := []) (fun _ _ => rfl) ?_
  obtain ⟨⟨x2, D3⟩, hx, h⟩ := bnd h
  refine ev_call (e_X8_passNumber L0 d (by omega) hx) 4 (pc' := 14) (L' := [some (.inr (.inr 18)), some (.inl p1), none]) (S' := []) (fun _ _ => rfl) ?_
  rcases ite_or h with ⟨hc, h⟩ | ⟨hc, h⟩
  · refine ev_ift hc 1 (pc' := 17) (L' := [some (.inr (.inr 18)), some (.inl p1), none]) (S' := []) (σ' := (SH L0, D3)) (fun _ _ => rfl) ?_
    cases h
    exact ev_ret 2 (fun _ _ => rfl)
  · refine ev_iff hc 1 (pc' := 19) (L' := [some (.inr (.inr 18)), some (.inl p1), none]) (S' := []) (σ' := (SH L0, D3)) (fun _ _ => rfl) ?_
    obtain ⟨⟨x4, D5⟩, hx, h⟩ := bnd h
    refine ev_call (e_X8_passNumber L0 d (by omega) hx) 7 (pc' := 32) (L' := [some (.inr (.inr 18)), some (.inl p1), some (.inl (D3 18 7))]) (S' := []) (fun _ _ => rfl) ?_
    rcases ite_or h with ⟨hc, h⟩ | ⟨hc, h⟩
    · refine ev_ift hc 1 (pc' := 35) (L' := [some (.inr (.inr 18)), some (.inl p1), some (.inl (D3 18 7))]) (S' := []) (σ' := (SH L0, D5)) (fun _ _ => rfl) ?_
      cases h
      exact ev_ret 2 (fun _ _ => rfl)
    · refine ev_iff hc 1 (pc' := 37) (L' := [some (.inr (.inr 18)), some (.inl p1), some (.inl (D3 18 7))]) (S' := []) (σ' := (SH L0, D5)) (fun _ _ => rfl) ?_
      obtain ⟨D6, hx, h⟩ := bnd h
      refine ev_call (e_X7_addArc L0 d (by omega) hx) 7 (pc' := 50) (L' := [some (.inr (.inr 18)), some (.inl p1), some (.inl (D3 18 7))]) (S' := []) (fun _ _ => rfl) ?_
      cases h
      exact ev_ret 2 (fun _ _ => rfl)
set_option maxRecDepth 100000 in
set_option maxHeartbeats 4000000 in
theorem e_X8_readEnd (L0 d : Nat) (hd : 5 ≤ d) {p1 : Int} {D : DT} {t0 : (Int × DT)} (h : m_X8_readEnd p1 D = some t0) : Ret mtab d 100 [.inr (.inr 18), .inl p1] (SH L0, D) (some (.inl t0.1), (SH L0, t0.2)) := by
  obtain ⟨d, rfl⟩ : ∃ e, d = e + 1 := ⟨d - 1, by omega⟩
  refine Ret.of (code := k_X8_readEnd) (ml := 2) rfl ?_
  show EvF mtab d k_X8_readEnd 0 [some (.inr (.inr 18)), some (.inl p1)] [] (SH L0, D) (some (.inl t0.1), (SH L0, t0.2))
  unfold m_X8_readEnd at h
  obtain ⟨x1, hx, h⟩ := bnd h
  refine ev_call (e_X9_isWord L0 d (by omega) hx) 4 (pc' := 10) (L' := [some (.inr (.inr 18)), some (.inl p1)]) (S' := []) (fun _ _ => rfl) ?_
  rcases ite_or h with ⟨hc, h⟩ | ⟨hc, h⟩
  · refine ev_ift hc 1 (pc' := 58) (L' := [some (.inr (.inr 18)), some (.inl p1)]) (S' := []) (σ' := (SH L0, D)) (fun _ _ => rfl) ?_
    obtain ⟨x2, hx, h⟩ := bnd h
    refine ev_call (e_X9_isWord L0 d (by omega) hx) 4 (pc' := 68) (L' := [some (.inr (.inr 18)), some (.inl p1)]) (S' := []) (fun _ _ => rfl) ?_
    rcases ite_or h with ⟨hc, h⟩ | ⟨hc, h⟩
    · refine ev_ift hc 1 (pc' := 87) (L' := [some (.inr (.inr 18)), some (.inl p1)]) (S' := []) (σ' := (SH L0, D)) (fun _ _ => rfl) ?_
      obtain ⟨x3, hx, h⟩ := bnd h
      refine ev_call (e_X9_isWord L0 d (by omega) hx) 4 (pc' := 97) (L' := [some (.inr (.inr 18)), some (.inl p1)]) (S' := []) (fun _ _ => rfl) ?_
      rcases ite_or h with ⟨hc, h⟩ | ⟨hc, h⟩
      · refine ev_ift hc 1 (pc' := 100) (L' := [some (.inr (.inr 18)), some (.inl p1)]) (S' := []) (σ' := (SH L0, D)) (fun _ _ => rfl) ?_
        obtain ⟨⟨x4, D5⟩, hx, h⟩ := bnd h
        refine ev_call (e_X8_refuseToken L0 d (by omega) hx) 3 (pc' := 105) (L' := [some (.inr (.inr 18)), some (.inl p1)]) (S' := []) (fun _ _ => rfl) ?_
        obtain ⟨x6, hx, h⟩ := bnd h
        cases h
        exact ev_brt hx 1 (fun _ _ => rfl)
      · refine ev_iff hc 1 (pc' := 106) (L' := [some (.inr (.inr 18)), some (.inl p1)]) (S' := []) (σ' := (SH L0, D)) (fun _ _ => rfl) ?_
        obtain ⟨D7, hx, h⟩ := bnd h
        refine ev_bind hx 6 (pc' := 116) (L' := fun D7 => [some (.inr (.inr 18)), some (.inl p1)]) (S' := fun D7 => []) (σ' := fun D7 => (SH L0, D7)) (fun _ _ => rfl) ?_
        obtain ⟨⟨x8, D9⟩, hx, h⟩ := bnd h
        refine ev_call (e_X8_readWay L0 d (by omega) hx) 3 (pc' := 121) (L' := [some (.inr (.inr 18)), some (.inl p1)]) (S' := []) (fun _ _ => rfl) ?_
        rcases ite_or h with ⟨hc, h⟩ | ⟨hc, h⟩
        · refine ev_ift hc 1 (pc' := 124) (L' := [some (.inr (.inr 18)), some (.inl p1)]) (S' := []) (σ' := (SH L0, D9)) (fun _ _ => rfl) ?_
          cases h
          exact ev_ret 2 (fun _ _ => rfl)
        · refine ev_iff hc 1 (pc' := 126) (L' := [some (.inr (.inr 18)), some (.inl p1)]) (S' := []) (σ' := (SH L0, D9)) (fun _ _ => rfl) ?_
          obtain ⟨x10, hx, h⟩ := bnd h
          refine ev_call (e_X9_isWord L0 d (by omega) hx) 4 (pc' := 135) (L' := [some (.inr (.inr 18)), some (.inl p1)]) (S' := []) (fun _ _ => rfl) ?_
          rcases ite_or h with ⟨hc, h⟩ | ⟨hc, h⟩
          · refine ev_ift hc 1 (pc' := 146) (L' := [some (.inr (.inr 18)), some (.inl p1)]) (S' := []) (σ' := (SH L0, D9)) (fun _ _ => rfl) ?_
            obtain ⟨⟨x11, D12⟩, hx, h⟩ := bnd h
            refine ev_call (e_X8_refuseToken L0 d (by omega) hx) 3 (pc' := 151) (L' := [some (.inr (.inr 18)), some (.inl p1)]) (S' := []) (fun _ _ => rfl) ?_
            obtain ⟨x13, hx, h⟩ := bnd h
            cases h
            exact ev_brt hx 1 (fun _ _ => rfl)
          · refine ev_iff hc 1 (pc' := 138) (L' := [some (.inr (.inr 18)), some (.inl p1)]) (S' := []) (σ' := (SH L0, D9)) (fun _ _ => rfl) ?_
            obtain ⟨⟨x14, D15⟩, hx, h⟩ := bnd h
            refine ev_call (e_X8_readWay L0 d (by omega) hx) 3 (pc' := 143) (L' := [some (.inr (.inr 18)), some (.inl p1)]) (S' := []) (fun _ _ => rfl) ?_
            obtain ⟨x16, hx, h⟩ := bnd h
            cases h
            exact ev_brt hx 2 (fun _ _ => rfl)
    · refine ev_iff hc 1 (pc' := 71) (L' := [some (.inr (.inr 18)), some (.inl p1)]) (S' := []) (σ' := (SH L0, D)) (fun _ _ => rfl) ?_
      obtain ⟨D17, hx, h⟩ := bnd h
      refine ev_bind hx 6 (pc' := 81) (L' := fun D17 => [some (.inr (.inr 18)), some (.inl p1)]) (S' := fun D17 => []) (σ' := fun D17 => (SH L0, D17)) (fun _ _ => rfl) ?_
      obtain ⟨⟨x18, D19⟩, hx, h⟩ := bnd h
      refine ev_call (e_X8_readWay L0 d (by omega) hx) 3 (pc' := 86) (L' := [some (.inr (.inr 18)), some (.inl p1)]) (S' := []) (fun _ _ => rfl) ?_
      obtain ⟨x20, hx, h⟩ := bnd h
      cases h
      exact ev_brt hx 1 (fun _ _ => rfl)
  · refine ev_iff hc 1 (pc' := 13) (L' := [some (.inr (.inr 18)), some (.inl p1)]) (S' := []) (σ' := (SH L0, D)) (fun _ _ => rfl) ?_
    obtain ⟨D21, hx, h⟩ := bnd h
    refine ev_call (e_X9_next L0 d (by omega) hx) 3 (pc' := 20) (L' := [some (.inr (.inr 18)), some (.inl p1)]) (S' := []) (fun _ _ => rfl) ?_
    obtain ⟨D22, hx, h⟩ := bnd h
    refine ev_bind hx 6 (pc' := 30) (L' := fun D22 => [some (.inr (.inr 18)), some (.inl p1)]) (S' := fun D22 => []) (σ' := fun D22 => (SH L0, D22)) (fun _ _ => rfl) ?_
    obtain ⟨⟨x23, D24⟩, hx, h⟩ := bnd h
    refine ev_call (e_X8_passNumber L0 d (by omega) hx) 4 (pc' := 38) (L' := [some (.inr (.inr 18)), some (.inl p1)]) (S' := []) (fun _ _ => rfl) ?_
    rcases ite_or h with ⟨hc, h⟩ | ⟨hc, h⟩
    · refine ev_ift hc 1 (pc' := 41) (L' := [some (.inr (.inr 18)), some (.inl p1)]) (S' := []) (σ' := (SH L0, D24)) (fun _ _ => rfl) ?_
      cases h
      exact ev_ret 2 (fun _ _ => rfl)
    · refine ev_iff hc 1 (pc' := 43) (L' := [some (.inr (.inr 18)), some (.inl p1)]) (S' := []) (σ' := (SH L0, D24)) (fun _ _ => rfl) ?_
      obtain ⟨D25, hx, h⟩ := bnd h
      refine ev_call (e_X7_addArc L0 d (by omega) hx) 7 (pc' := 56) (L' := [some (.inr (.inr 18)), some (.inl p1)]) (S' := []) (fun _ _ => rfl) ?_
      cases h
      exact ev_ret 2 (fun _ _ => rfl)
set_option maxRecDepth 100000 in
set_option maxHeartbeats 4000000 in
theorem e_X8_readBlock (L0 d : Nat) (hd : 6 ≤ d) {D : DT} {t0 : (Int × DT)} (h : m_X8_readBlock  D = some t0) : Ret mtab d 98 [.inr (.inr 18)] (SH L0, D) (some (.inl t0.1), (SH L0, t0.2)) := by
  obtain ⟨d, rfl⟩ : ∃ e, d = e + 1 := ⟨d - 1, by omega⟩
  refine Ret.of (code := k_X8_readBlock) (ml := 3) rfl ?_
  show EvF mtab d k_X8_readBlock 0 [some (.inr (.inr 18)), none, none] [] (SH L0, D) (some (.inl t0.1), (SH L0, t0.2))
  unfold m_X8_readBlock at h
  rcases ite_or h with ⟨hc, h⟩ | ⟨hc, h⟩
  · refine ev_ift hc 5 (pc' := 19) (L' := [some (.inr (.inr 18)), none, none]) (S' := []) (σ' := (SH L0, D)) (fun _ _ => rfl) ?_
    obtain ⟨D1, hx, h⟩ := bnd h
    refine ev_call (e_X9_next L0 d (by omega) hx) 3 (pc' := 26) (L' := [some (.inr (.inr 18)), none, none]) (S' := []) (fun _ _ => rfl) ?_
    obtain ⟨⟨x2, D3⟩, hx, h⟩ := bnd h
    refine ev_call (e_X8_passHeldName L0 d (by omega) hx) 2 (pc' := 30) (L' := [some (.inr (.inr 18)), none, none]) (S' := []) (fun _ _ => rfl) ?_
    rcases ite_or h with ⟨hc, h⟩ | ⟨hc, h⟩
    · refine ev_ift hc 1 (pc' := 33) (L' := [some (.inr (.inr 18)), none, none]) (S' := []) (σ' := (SH L0, D3)) (fun _ _ => rfl) ?_
      cases h
      exact ev_ret 2 (fun _ _ => rfl)
    · refine ev_iff hc 1 (pc' := 35) (L' := [some (.inr (.inr 18)), none, none]) (S' := []) (σ' := (SH L0, D3)) (fun _ _ => rfl) ?_
      obtain ⟨⟨x4, D5⟩, hx, h⟩ := bnd h
      refine ev_call (e_X8_passNumber L0 d (by omega) hx) 7 (pc' := 47) (L' := [some (.inr (.inr 18)), some (.inl (D3 18 8)), none]) (S' := []) (fun _ _ => rfl) ?_
      rcases ite_or h with ⟨hc, h⟩ | ⟨hc, h⟩
      · refine ev_ift hc 1 (pc' := 50) (L' := [some (.inr (.inr 18)), some (.inl (D3 18 8)), none]) (S' := []) (σ' := (SH L0, D5)) (fun _ _ => rfl) ?_
        cases h
        exact ev_ret 2 (fun _ _ => rfl)
      · refine ev_iff hc 1 (pc' := 52) (L' := [some (.inr (.inr 18)), some (.inl (D3 18 8)), none]) (S' := []) (σ' := (SH L0, D5)) (fun _ _ => rfl) ?_
        obtain ⟨⟨x6, D7⟩, hx, h⟩ := bnd h
        refine ev_call (e_X7_addBlock L0 d (by omega) hx) 6 (pc' := 64) (L' := [some (.inr (.inr 18)), some (.inl (D3 18 8)), none]) (S' := []) (fun _ _ => rfl) ?_
        rcases ite_or h with ⟨hc, h⟩ | ⟨hc, h⟩
        · refine ev_ift hc 4 (pc' := 97) (L' := [some (.inr (.inr 18)), some (.inl (D3 18 8)), some (.inl x6)]) (S' := []) (σ' := (SH L0, D7)) (fun _ _ => rfl) ?_
          cases h
          exact ev_ret 2 (fun _ _ => rfl)
        · refine ev_iff hc 4 (pc' := 70) (L' := [some (.inr (.inr 18)), some (.inl (D3 18 8)), some (.inl x6)]) (S' := []) (σ' := (SH L0, D7)) (fun _ _ => rfl) ?_
          obtain ⟨⟨x8, D9⟩, hx, h⟩ := bnd h
          refine ev_call (e_X8_readCalls L0 d (by omega) hx) 3 (pc' := 75) (L' := [some (.inr (.inr 18)), some (.inl (D3 18 8)), some (.inl x6)]) (S' := []) (fun _ _ => rfl) ?_
          rcases ite_or h with ⟨hc, h⟩ | ⟨hc, h⟩
          · refine ev_ift hc 1 (pc' := 97) (L' := [some (.inr (.inr 18)), some (.inl (D3 18 8)), some (.inl x6)]) (S' := []) (σ' := (SH L0, D9)) (fun _ _ => rfl) ?_
            cases h
            exact ev_ret 2 (fun _ _ => rfl)
          · refine ev_iff hc 1 (pc' := 78) (L' := [some (.inr (.inr 18)), some (.inl (D3 18 8)), some (.inl x6)]) (S' := []) (σ' := (SH L0, D9)) (fun _ _ => rfl) ?_
            obtain ⟨⟨x10, D11⟩, hx, h⟩ := bnd h
            refine ev_call (e_X8_readEnd L0 d (by omega) hx) 3 (pc' := 83) (L' := [some (.inr (.inr 18)), some (.inl (D3 18 8)), some (.inl x6)]) (S' := []) (fun _ _ => rfl) ?_
            rcases ite_or h with ⟨hc, h⟩ | ⟨hc, h⟩
            · refine ev_ift hc 1 (pc' := 97) (L' := [some (.inr (.inr 18)), some (.inl (D3 18 8)), some (.inl x6)]) (S' := []) (σ' := (SH L0, D11)) (fun _ _ => rfl) ?_
              cases h
              exact ev_ret 2 (fun _ _ => rfl)
            · refine ev_iff hc 1 (pc' := 86) (L' := [some (.inr (.inr 18)), some (.inl (D3 18 8)), some (.inl x6)]) (S' := []) (σ' := (SH L0, D11)) (fun _ _ => rfl) ?_
              obtain ⟨⟨x12, D13⟩, hx, h⟩ := bnd h
              refine ev_call (e_X8_passSign L0 d (by omega) hx) 2 (pc' := 90) (L' := [some (.inr (.inr 18)), some (.inl (D3 18 8)), some (.inl x6)]) (S' := []) (fun _ _ => rfl) ?_
              rcases ite_or h with ⟨hc, h⟩ | ⟨hc, h⟩
              · refine ev_ift hc 1 (pc' := 97) (L' := [some (.inr (.inr 18)), some (.inl (D3 18 8)), some (.inl x6)]) (S' := []) (σ' := (SH L0, D13)) (fun _ _ => rfl) ?_
                cases h
                exact ev_ret 2 (fun _ _ => rfl)
              · refine ev_iff hc 1 (pc' := 93) (L' := [some (.inr (.inr 18)), some (.inl (D3 18 8)), some (.inl x6)]) (S' := []) (σ' := (SH L0, D13)) (fun _ _ => rfl) ?_
                cases h
                exact ev_ret 3 (fun _ _ => rfl)
  · refine ev_iff hc 5 (pc' := 12) (L' := [some (.inr (.inr 18)), none, none]) (S' := []) (σ' := (SH L0, D)) (fun _ _ => rfl) ?_
    obtain ⟨⟨x14, D15⟩, hx, h⟩ := bnd h
    refine ev_call (e_X8_refuseToken L0 d (by omega) hx) 3 (pc' := 18) (L' := [some (.inr (.inr 18)), none, none]) (S' := []) (fun _ _ => rfl) ?_
    obtain ⟨x16, hx, h⟩ := bnd h
    cases h
    exact ev_brt hx 1 (fun _ _ => rfl)
set_option maxRecDepth 100000 in
set_option maxHeartbeats 4000000 in
theorem e_X8_aim (L0 d : Nat) (hd : 2 ≤ d) {p1 : Int} {D : DT} {t0 : DT} (h : m_X8_aim p1 D = some t0) : Ret mtab d 109 [.inr (.inr 18), .inl p1] (SH L0, D) (none, (SH L0, t0)) := by
  obtain ⟨d, rfl⟩ : ∃ e, d = e + 1 := ⟨d - 1, by omega⟩
  refine Ret.of (code := k_X8_aim) (ml := 3) rfl ?_
  show EvF mtab d k_X8_aim 0 [some (.inr (.inr 18)), some (.inl p1), none] [] (SH L0, D) (none, (SH L0, t0))
  unfold m_X8_aim at h
  obtain ⟨x1, hx, h⟩ := bnd h
  refine ev_call (e_X7_isInside_19 L0 d (by omega) hx) 4 (pc' := 8) (L' := [some (.inr (.inr 18)), some (.inl p1), none]) (S' := []) (fun _ _ => rfl) ?_
  rcases ite_or h with ⟨hc, h⟩ | ⟨hc, h⟩
  · refine ev_ift hc 1 (pc' := 11) (L' := [some (.inr (.inr 18)), some (.inl p1), none]) (S' := []) (σ' := (SH L0, D)) (fun _ _ => rfl) ?_
    cases h
    exact ev_ret 1 (fun _ _ => rfl)
  · refine ev_iff hc 1 (pc' := 12) (L' := [some (.inr (.inr 18)), some (.inl p1), none]) (S' := []) (σ' := (SH L0, D)) (fun _ _ => rfl) ?_
    obtain ⟨x2, hx, h⟩ := bnd h
    refine ev_bind hx 8 (pc' := 28) (L' := fun x2 => [some (.inr (.inr 18)), some (.inl p1), none]) (S' := fun x2 => [.inl x2, .inr (.inr 23)]) (σ' := fun x2 => (SH L0, D)) (fun _ _ => rfl) ?_
    obtain ⟨x3, hx, h⟩ := bnd h
    refine ev_bind hx 1 (pc' := 29) (L' := fun x3 => [some (.inr (.inr 18)), some (.inl p1), none]) (S' := fun x3 => [.inl x3]) (σ' := fun x3 => (SH L0, D)) (fun _ _ => rfl) ?_
    obtain ⟨x4, hx, h⟩ := bnd h
    refine ev_bind hx 6 (pc' := 39) (L' := fun x4 => [some (.inr (.inr 18)), some (.inl p1), some (.inl x3)]) (S' := fun x4 => [.inl x4]) (σ' := fun x4 => (SH L0, D)) (fun _ _ => rfl) ?_
    obtain ⟨x5, hx, h⟩ := bnd h
    refine ev_bind hx 5 (pc' := 48) (L' := fun x5 => [some (.inr (.inr 18)), some (.inl p1), some (.inl x3)]) (S' := fun x5 => [.inl x5, .inl x4]) (σ' := fun x5 => (SH L0, D)) (fun _ _ => rfl) ?_
    rcases ite_or h with ⟨hc, h⟩ | ⟨hc, h⟩
    · refine ev_ift hc 1 (pc' := 60) (L' := [some (.inr (.inr 18)), some (.inl p1), some (.inl x3)]) (S' := []) (σ' := (SH L0, D)) (fun _ _ => rfl) ?_
      obtain ⟨x6, hx, h⟩ := bnd h
      refine ev_bind hx 12 (pc' := 82) (L' := fun x6 => [some (.inr (.inr 18)), some (.inl p1), some (.inl x3)]) (S' := fun x6 => [.inl x6, .inl x3, .inr (.inr 19), .inl p1, .inr (.inr 29)]) (σ' := fun x6 => (SH L0, D)) (fun _ _ => rfl) ?_
      obtain ⟨x7, hx, h⟩ := bnd h
      refine ev_call (e_X7_member_19 L0 d (by omega) hx) 1 (pc' := 85) (L' := [some (.inr (.inr 18)), some (.inl p1), some (.inl x3)]) (S' := [.inl p1, .inr (.inr 29)]) (fun _ _ => rfl) ?_
      obtain ⟨D8, hx, h⟩ := bnd h
      refine ev_bind hx 1 (pc' := 86) (L' := fun D8 => [some (.inr (.inr 18)), some (.inl p1), some (.inl x3)]) (S' := fun D8 => []) (σ' := fun D8 => (SH L0, D8)) (fun _ _ => rfl) ?_
      cases h
      exact ev_ret 1 (fun _ _ => rfl)
    · refine ev_iff hc 1 (pc' := 51) (L' := [some (.inr (.inr 18)), some (.inl p1), some (.inl x3)]) (S' := []) (σ' := (SH L0, D)) (fun _ _ => rfl) ?_
      cases h
      exact ev_ret 5 (fun _ _ => rfl)
set_option maxRecDepth 100000 in
set_option maxHeartbeats 4000000 in
theorem e_X8_finish (L0 d : Nat) (hd : 3 ≤ d) {p1 : Int} {D : DT} {t0 : DT} (h : m_X8_finish p1 D = some t0) : Ret mtab d 108 [.inr (.inr 18), .inl p1] (SH L0, D) (none, (SH L0, t0)) := by
  obtain ⟨d, rfl⟩ : ∃ e, d = e + 1 := ⟨d - 1, by omega⟩
  refine Ret.of (code := k_X8_finish) (ml := 3) rfl ?_
  show EvF mtab d k_X8_finish 0 [some (.inr (.inr 18)), some (.inl p1), none] [] (SH L0, D) (none, (SH L0, t0))
  unfold m_X8_finish at h
  obtain ⟨r, hr, h⟩ := bnd h
  have hX : (fun (r : (Unit ⊕ Unit)) => match r with | .inl r => (∀ (o3 : Option (Sum Int Nat)), EvF mtab d k_X8_finish 30 [some (.inr (.inr 18)), some (.inl p1), dv o3] [] (SH L0, dput D 18 2 p1) (none, (SH L0, t0))) | .inr r => (∀ (o4 : Option (Sum Int Nat)), EvF mtab d k_X8_finish 43 [some (.inr (.inr 18)), some (.inl p1), dv o4] [] (SH L0, dput D 18 2 p1) (none, (SH L0, t0)))) r := by
    rcases r with r | r
    · skip
      intro o3
      show EvF mtab d k_X8_finish 30 [some (.inr (.inr 18)), some (.inl p1), dv o3] [] (SH L0, dput D 18 2 p1) (none, (SH L0, t0))
      cases h
      exact ev_ret 4 (fun _ _ => rfl)
    intro o4
    show EvF mtab d k_X8_finish 43 [some (.inr (.inr 18)), some (.inl p1), dv o4] [] (SH L0, dput D 18 2 p1) (none, (SH L0, t0))
    obtain ⟨D5, hx, h⟩ := bnd h
    refine ev_call (e_X7_listBlocks L0 d (by omega) hx) 3 (pc' := 50) (L' := [some (.inr (.inr 18)), some (.inl p1), dv o4]) (S' := []) (fun _ _ => rfl) ?_
    obtain ⟨r, hr, h⟩ := bnd h
    have hX : (fun (r : DT) => ∀ (o10 : Option (Sum Int Nat)), EvF mtab d k_X8_finish 86 [some (.inr (.inr 18)), some (.inl p1), dv o10] [] (SH L0, r) (none, (SH L0, t0))) r := by
      obtain ⟨D11, hre⟩ : ∃ q, q = r := ⟨r, rfl⟩
      subst hre
      intro o10
      show EvF mtab d k_X8_finish 86 [some (.inr (.inr 18)), some (.inl p1), dv o10] [] (SH L0, D11) (none, (SH L0, t0))
      obtain ⟨r, hr, h⟩ := bnd h
      have hX : (fun (r : DT) => ∀ (o15 : Option (Sum Int Nat)), EvF mtab d k_X8_finish 116 [some (.inr (.inr 18)), some (.inl p1), dv o15] [] (SH L0, r) (none, (SH L0, t0))) r := by
        obtain ⟨D16, hre⟩ : ∃ q, q = r := ⟨r, rfl⟩
        subst hre
        intro o15
        show EvF mtab d k_X8_finish 116 [some (.inr (.inr 18)), some (.inl p1), dv o15] [] (SH L0, D16) (none, (SH L0, t0))
        cases h
        exact ev_ret 1 (fun _ _ => rfl)
      clear h
      refine ev_go 4 (pc' := 94) (L' := [some (.inr (.inr 18)), some (.inl p1), some (.inl (D11 19 0))]) (S' := []) (σ' := (SH L0, D11)) (fun _ _ => rfl) ?_
      refine loop_ind (P := fun s => EvF mtab d k_X8_finish 94 [some (.inr (.inr 18)), some (.inl p1), some (.inl s.1)] [] (SH L0, s.2) (none, (SH L0, t0))) (X := fun r => ∀ (o15 : Option (Sum Int Nat)), EvF mtab d k_X8_finish 116 [some (.inr (.inr 18)), some (.inl p1), dv o15] [] (SH L0, r) (none, (SH L0, t0))) hr hX ?_
      clear hr hX
      intro s t hb hK0
      obtain ⟨l2_12, D13⟩ := s
      show EvF mtab d k_X8_finish 94 [some (.inr (.inr 18)), some (.inl p1), some (.inl l2_12)] [] (SH L0, D13) (none, (SH L0, t0))
      unfold b_X8_finish_94 at hb
      rcases ite_or hb with ⟨hc, hb⟩ | ⟨hc, hb⟩
      · refine ev_ift hc 5 (pc' := 105) (L' := [some (.inr (.inr 18)), some (.inl p1), some (.inl l2_12)]) (S' := []) (σ' := (SH L0, D13)) (fun _ _ => rfl) ?_
        obtain ⟨D14, hx, hb⟩ := bnd hb
        refine ev_call (e_X8_aim L0 d (by omega) hx) 3 (pc' := 110) (L' := [some (.inr (.inr 18)), some (.inl p1), some (.inl l2_12)]) (S' := []) (fun _ _ => rfl) ?_
        cases hb
        exact ev_go 2 (pc' := 94) (L' := [some (.inr (.inr 18)), some (.inl p1), some (.inl (w32 (l2_12 + 1)))]) (S' := []) (σ' := (SH L0, D14)) (fun _ _ => rfl) hK0
      · refine ev_iff hc 5 (pc' := 116) (L' := [some (.inr (.inr 18)), some (.inl p1), some (.inl l2_12)]) (S' := []) (σ' := (SH L0, D13)) (fun _ _ => rfl) ?_
        cases hb
        exact hK0 (some (.inl l2_12))
    clear h
    refine ev_go 2 (pc' := 52) (L' := [some (.inr (.inr 18)), some (.inl p1), some (.inl 0)]) (S' := []) (σ' := (SH L0, D5)) (fun _ _ => rfl) ?_
    refine loop_ind (P := fun s => EvF mtab d k_X8_finish 52 [some (.inr (.inr 18)), some (.inl p1), some (.inl s.1)] [] (SH L0, s.2) (none, (SH L0, t0))) (X := fun r => ∀ (o10 : Option (Sum Int Nat)), EvF mtab d k_X8_finish 86 [some (.inr (.inr 18)), some (.inl p1), dv o10] [] (SH L0, r) (none, (SH L0, t0))) hr hX ?_
    clear hr hX
    intro s t hb hK0
    obtain ⟨l2_6, D7⟩ := s
    show EvF mtab d k_X8_finish 52 [some (.inr (.inr 18)), some (.inl p1), some (.inl l2_6)] [] (SH L0, D7) (none, (SH L0, t0))
    unfold b_X8_finish_52 at hb
    rcases ite_or hb with ⟨hc, hb⟩ | ⟨hc, hb⟩
    · refine ev_ift hc 5 (pc' := 63) (L' := [some (.inr (.inr 18)), some (.inl p1), some (.inl l2_6)]) (S' := []) (σ' := (SH L0, D7)) (fun _ _ => rfl) ?_
      obtain ⟨x8, hx, hb⟩ := bnd hb
      refine ev_call (e_X7_entryOf_19 L0 d (by omega) hx) 8 (pc' := 79) (L' := [some (.inr (.inr 18)), some (.inl p1), some (.inl l2_6)]) (S' := [.inl l2_6, .inr (.inr 29)]) (fun _ _ => rfl) ?_
      obtain ⟨D9, hx, hb⟩ := bnd hb
      refine ev_bind hx 1 (pc' := 80) (L' := fun D9 => [some (.inr (.inr 18)), some (.inl p1), some (.inl l2_6)]) (S' := fun D9 => []) (σ' := fun D9 => (SH L0, D9)) (fun _ _ => rfl) ?_
      cases hb
      exact ev_go 2 (pc' := 52) (L' := [some (.inr (.inr 18)), some (.inl p1), some (.inl (w32 (l2_6 + 1)))]) (S' := []) (σ' := (SH L0, D9)) (fun _ _ => rfl) hK0
    · refine ev_iff hc 5 (pc' := 86) (L' := [some (.inr (.inr 18)), some (.inl p1), some (.inl l2_6)]) (S' := []) (σ' := (SH L0, D7)) (fun _ _ => rfl) ?_
      cases hb
      exact hK0 (some (.inl l2_6))
  clear h
  refine ev_go 5 (pc' := 7) (L' := [some (.inr (.inr 18)), some (.inl p1), some (.inl 0)]) (S' := []) (σ' := (SH L0, dput D 18 2 p1)) (fun _ _ => rfl) ?_
  refine loop_ind (P := fun s => EvF mtab d k_X8_finish 7 [some (.inr (.inr 18)), some (.inl p1), some (.inl s)] [] (SH L0, dput D 18 2 p1) (none, (SH L0, t0))) (X := fun r => match r with | .inl r => (∀ (o3 : Option (Sum Int Nat)), EvF mtab d k_X8_finish 30 [some (.inr (.inr 18)), some (.inl p1), dv o3] [] (SH L0, dput D 18 2 p1) (none, (SH L0, t0))) | .inr r => (∀ (o4 : Option (Sum Int Nat)), EvF mtab d k_X8_finish 43 [some (.inr (.inr 18)), some (.inl p1), dv o4] [] (SH L0, dput D 18 2 p1) (none, (SH L0, t0)))) hr hX ?_
  clear hr hX
  intro s t hb hK0
  obtain ⟨l2_1, hre⟩ : ∃ q, q = s := ⟨s, rfl⟩
  subst hre
  show EvF mtab d k_X8_finish 7 [some (.inr (.inr 18)), some (.inl p1), some (.inl l2_1)] [] (SH L0, dput D 18 2 p1) (none, (SH L0, t0))
  unfold b_X8_finish_7 at hb
  rcases ite_or hb with ⟨hc, hb⟩ | ⟨hc, hb⟩
  · refine ev_ift hc 5 (pc' := 18) (L' := [some (.inr (.inr 18)), some (.inl p1), some (.inl l2_1)]) (S' := []) (σ' := (SH L0, dput D 18 2 p1)) (fun _ _ => rfl) ?_
    obtain ⟨x2, hx, hb⟩ := bnd hb
    refine ev_bind hx 5 (pc' := 27) (L' := fun x2 => [some (.inr (.inr 18)), some (.inl p1), some (.inl l2_1)]) (S' := fun x2 => [.inl x2]) (σ' := fun x2 => (SH L0, dput D 18 2 p1)) (fun _ _ => rfl) ?_
    rcases ite_or hb with ⟨hc, hb⟩ | ⟨hc, hb⟩
    · refine ev_ift hc 1 (pc' := 30) (L' := [some (.inr (.inr 18)), some (.inl p1), some (.inl l2_1)]) (S' := []) (σ' := (SH L0, dput D 18 2 p1)) (fun _ _ => rfl) ?_
      cases hb
      exact hK0 (some (.inl l2_1))
    · refine ev_iff hc 1 (pc' := 37) (L' := [some (.inr (.inr 18)), some (.inl p1), some (.inl l2_1)]) (S' := []) (σ' := (SH L0, dput D 18 2 p1)) (fun _ _ => rfl) ?_
      cases hb
      exact ev_go 2 (pc' := 7) (L' := [some (.inr (.inr 18)), some (.inl p1), some (.inl (w32 (l2_1 + 1)))]) (S' := []) (σ' := (SH L0, dput D 18 2 p1)) (fun _ _ => rfl) hK0
  · refine ev_iff hc 5 (pc' := 43) (L' := [some (.inr (.inr 18)), some (.inl p1), some (.inl l2_1)]) (S' := []) (σ' := (SH L0, dput D 18 2 p1)) (fun _ _ => rfl) ?_
    cases hb
    exact hK0 (some (.inl l2_1))
set_option maxRecDepth 100000 in
set_option maxHeartbeats 4000000 in
theorem e_X9_begin (L0 d : Nat) (hd : 3 ≤ d) {p1 : Int} {D : DT} {t0 : DT} (h : m_X9_begin p1 D = some t0) : Ret mtab d 111 [.inr (.inr 35), .inl p1] (SH L0, D) (none, (SH L0, t0)) := by
  obtain ⟨d, rfl⟩ : ∃ e, d = e + 1 := ⟨d - 1, by omega⟩
  refine Ret.of (code := k_X9_begin) (ml := 2) rfl ?_
  show EvF mtab d k_X9_begin 0 [some (.inr (.inr 35)), some (.inl p1)] [] (SH L0, D) (none, (SH L0, t0))
  unfold m_X9_begin at h
  obtain ⟨D1, hx, h⟩ := bnd h
  refine ev_call (e_X9_next L0 d (by omega) hx) 12 (pc' := 22) (L' := [some (.inr (.inr 35)), some (.inl p1)]) (S' := []) (fun _ _ => rfl) ?_
  cases h
  exact ev_ret 1 (fun _ _ => rfl)
set_option maxRecDepth 100000 in
set_option maxHeartbeats 4000000 in
theorem e_X8_read (L0 d : Nat) (hd : 7 ≤ d) {p1 : Int} {D : DT} {t0 : DT} (h : m_X8_read p1 D = some t0) : Ret mtab d 91 [.inr (.inr 18), .inl p1] (SH L0, D) (none, (SH L0, t0)) := by
  obtain ⟨d, rfl⟩ : ∃ e, d = e + 1 := ⟨d - 1, by omega⟩
  refine Ret.of (code := k_X8_read) (ml := 4) rfl ?_
  show EvF mtab d k_X8_read 0 [some (.inr (.inr 18)), some (.inl p1), none, none] [] (SH L0, D) (none, (SH L0, t0))
  unfold m_X8_read at h
  obtain ⟨D1, hx, h⟩ := bnd h
  refine ev_call (e_X7_clear L0 d (by omega) hx) 3 (pc' := 7) (L' := [some (.inr (.inr 18)), some (.inl p1), none, none]) (S' := []) (fun _ _ => rfl) ?_
  obtain ⟨x2, hx, h⟩ := bnd h
  refine ev_bind hx 6 (pc' := 17) (L' := fun x2 => [some (.inr (.inr 18)), some (.inl p1), none, none]) (S' := fun x2 => []) (σ' := fun x2 => (SH L0, dput (dput D1 18 1 0) 18 6 x2)) (fun _ _ => rfl) ?_
  obtain ⟨r, hr, h⟩ := bnd h
  have hX : (fun (r : DT) => ∀ (o7 : Option (Sum Int Nat)), EvF mtab d k_X8_read 37 [some (.inr (.inr 18)), some (.inl p1), dv o7, none] [] (SH L0, r) (none, (SH L0, t0))) r := by
    obtain ⟨D8, hre⟩ : ∃ q, q = r := ⟨r, rfl⟩
    subst hre
    intro o7
    show EvF mtab d k_X8_read 37 [some (.inr (.inr 18)), some (.inl p1), dv o7, none] [] (SH L0, D8) (none, (SH L0, t0))
    obtain ⟨D9, hx, h⟩ := bnd h
    refine ev_call (e_X9_begin L0 d (by omega) hx) 4 (pc' := 45) (L' := [some (.inr (.inr 18)), some (.inl p1), dv o7, none]) (S' := []) (fun _ _ => rfl) ?_
    obtain ⟨r, hr, h⟩ := bnd h
    have hX : (fun (r : (Int × DT)) => ∀ (o27 : Option (Sum Int Nat)), EvF mtab d k_X8_read 124 [some (.inr (.inr 18)), some (.inl p1), some (.inl r.1), dv o27] [] (SH L0, r.2) (none, (SH L0, t0))) r := by
      obtain ⟨l2_26, D28⟩ := r
      intro o27
      show EvF mtab d k_X8_read 124 [some (.inr (.inr 18)), some (.inl p1), some (.inl l2_26), dv o27] [] (SH L0, D28) (none, (SH L0, t0))
      rcases ite_or h with ⟨hc, h⟩ | ⟨hc, h⟩
      · refine ev_ift hc 2 (pc' := 133) (L' := [some (.inr (.inr 18)), some (.inl p1), some (.inl l2_26), dv o27]) (S' := []) (σ' := (SH L0, D28)) (fun _ _ => rfl) ?_
        cases h
        exact ev_ret 1 (fun _ _ => rfl)
      · refine ev_iff hc 2 (pc' := 128) (L' := [some (.inr (.inr 18)), some (.inl p1), some (.inl l2_26), dv o27]) (S' := []) (σ' := (SH L0, D28)) (fun _ _ => rfl) ?_
        obtain ⟨D29, hx, h⟩ := bnd h
        refine ev_call (e_X8_finish L0 d (by omega) hx) 3 (pc' := 133) (L' := [some (.inr (.inr 18)), some (.inl p1), some (.inl l2_26), dv o27]) (S' := []) (fun _ _ => rfl) ?_
        cases h
        exact ev_ret 1 (fun _ _ => rfl)
    clear h
    refine ev_go 4 (pc' := 49) (L' := [some (.inr (.inr 18)), some (.inl p1), some (.inl 1), some (.inl 0)]) (S' := []) (σ' := (SH L0, D9)) (fun _ _ => rfl) ?_
    refine loop_ind (P := fun s => EvF mtab d k_X8_read 49 [some (.inr (.inr 18)), some (.inl p1), some (.inl s.1), some (.inl s.2.1)] [] (SH L0, s.2.2) (none, (SH L0, t0))) (X := fun r => ∀ (o27 : Option (Sum Int Nat)), EvF mtab d k_X8_read 124 [some (.inr (.inr 18)), some (.inl p1), some (.inl r.1), dv o27] [] (SH L0, r.2) (none, (SH L0, t0))) hr hX ?_
    clear hr hX
    intro s t hb hK0
    obtain ⟨l2_10, l3_11, D12⟩ := s
    show EvF mtab d k_X8_read 49 [some (.inr (.inr 18)), some (.inl p1), some (.inl l2_10), some (.inl l3_11)] [] (SH L0, D12) (none, (SH L0, t0))
    unfold b_X8_read_49 at hb
    rcases ite_or hb with ⟨hc, hb⟩ | ⟨hc, hb⟩
    · refine ev_ift hc 3 (pc' := 124) (L' := [some (.inr (.inr 18)), some (.inl p1), some (.inl l2_10), some (.inl l3_11)]) (S' := []) (σ' := (SH L0, D12)) (fun _ _ => rfl) ?_
      cases hb
      exact hK0 (some (.inl l3_11))
    · refine ev_iff hc 3 (pc' := 54) (L' := [some (.inr (.inr 18)), some (.inl p1), some (.inl l2_10), some (.inl l3_11)]) (S' := []) (σ' := (SH L0, D12)) (fun _ _ => rfl) ?_
      rcases ite_or hb with ⟨hc, hb⟩ | ⟨hc, hb⟩
      · refine ev_ift hc 2 (pc' := 124) (L' := [some (.inr (.inr 18)), some (.inl p1), some (.inl l2_10), some (.inl l3_11)]) (S' := []) (σ' := (SH L0, D12)) (fun _ _ => rfl) ?_
        cases hb
        exact hK0 (some (.inl l3_11))
      · refine ev_iff hc 2 (pc' := 58) (L' := [some (.inr (.inr 18)), some (.inl p1), some (.inl l2_10), some (.inl l3_11)]) (S' := []) (σ' := (SH L0, D12)) (fun _ _ => rfl) ?_
        rcases ite_or hb with ⟨hc, hb⟩ | ⟨hc, hb⟩
        · refine ev_ift hc 4 (pc' := 124) (L' := [some (.inr (.inr 18)), some (.inl p1), some (.inl l2_10), some (.inl l3_11)]) (S' := []) (σ' := (SH L0, D12)) (fun _ _ => rfl) ?_
          cases hb
          exact hK0 (some (.inl l3_11))
        · refine ev_iff hc 4 (pc' := 68) (L' := [some (.inr (.inr 18)), some (.inl p1), some (.inl l2_10), some (.inl l3_11)]) (S' := []) (σ' := (SH L0, D12)) (fun _ _ => rfl) ?_
          obtain ⟨x13, hx, hb⟩ := bnd hb
          refine ev_call (e_X9_isWord L0 d (by omega) hx) 4 (pc' := 78) (L' := [some (.inr (.inr 18)), some (.inl p1), some (.inl l2_10), some (.inl l3_11)]) (S' := []) (fun _ _ => rfl) ?_
          obtain ⟨⟨l2_24, D25⟩, hv, hb⟩ := bnd hb
          have hJ : EvF mtab d k_X8_read 118 [some (.inr (.inr 18)), some (.inl p1), some (.inl l2_24), some (.inl l3_11)] [] (SH L0, D25) (none, (SH L0, t0)) := by
            cases hb
            exact ev_go 2 (pc' := 49) (L' := [some (.inr (.inr 18)), some (.inl p1), some (.inl l2_24), some (.inl (w32 (l3_11 + 1)))]) (S' := []) (σ' := (SH L0, D25)) (fun _ _ => rfl) hK0
          clear hb
          rcases ite_or hv with ⟨hc, hv⟩ | ⟨hc, hv⟩
          · refine ev_ift hc 1 (pc' := 89) (L' := [some (.inr (.inr 18)), some (.inl p1), some (.inl l2_10), some (.inl l3_11)]) (S' := []) (σ' := (SH L0, D12)) (fun _ _ => rfl) ?_
            obtain ⟨x14, hx, hv⟩ := bnd hv
            refine ev_bind hx 3 (pc' := 94) (L' := fun x14 => [some (.inr (.inr 18)), some (.inl p1), some (.inl l2_10), some (.inl l3_11)]) (S' := fun x14 => []) (σ' := fun x14 => (SH L0, dput D12 18 6 x14)) (fun _ _ => rfl) ?_
            obtain ⟨x15, hx, hv⟩ := bnd hv
            refine ev_call (e_X9_isWord L0 d (by omega) hx) 4 (pc' := 103) (L' := [some (.inr (.inr 18)), some (.inl p1), some (.inl l2_10), some (.inl l3_11)]) (S' := []) (fun _ _ => rfl) ?_
            obtain ⟨⟨t20, D21⟩, hv, hv⟩ := bnd hv
            have hJ : EvF mtab d k_X8_read 117 [some (.inr (.inr 18)), some (.inl p1), some (.inl l2_10), some (.inl l3_11)] [.inl t20] (SH L0, D21) (none, (SH L0, t0)) := by
              have he0 := Option.some.inj hv
              obtain ⟨ha0, he1⟩ := Prod.mk.inj he0
              clear he0
              subst ha0
              subst he1
              exact ev_go 1 (pc' := 118) (L' := [some (.inr (.inr 18)), some (.inl p1), some (.inl t20), some (.inl l3_11)]) (S' := []) (σ' := (SH L0, D21)) (fun _ _ => rfl) hJ
            clear hv
            rcases ite_or hv with ⟨hc, hv⟩ | ⟨hc, hv⟩
            · refine ev_ift hc 1 (pc' := 113) (L' := [some (.inr (.inr 18)), some (.inl p1), some (.inl l2_10), some (.inl l3_11)]) (S' := []) (σ' := (SH L0, dput D12 18 6 x14)) (fun _ _ => rfl) ?_
              obtain ⟨⟨x16, D17⟩, hx, hv⟩ := bnd hv
              refine ev_call (e_X8_readOther L0 d (by omega) hx) 2 (pc' := 117) (L' := [some (.inr (.inr 18)), some (.inl p1), some (.inl l2_10), some (.inl l3_11)]) (S' := []) (fun _ _ => rfl) ?_
              have he0 := Option.some.inj hv
              obtain ⟨ha0, he1⟩ := Prod.mk.inj he0
              clear he0
              subst ha0
              subst he1
              exact hJ
            · refine ev_iff hc 1 (pc' := 106) (L' := [some (.inr (.inr 18)), some (.inl p1), some (.inl l2_10), some (.inl l3_11)]) (S' := []) (σ' := (SH L0, dput D12 18 6 x14)) (fun _ _ => rfl) ?_
              obtain ⟨⟨x18, D19⟩, hx, hv⟩ := bnd hv
              refine ev_call (e_X8_readBlock L0 d (by omega) hx) 2 (pc' := 110) (L' := [some (.inr (.inr 18)), some (.inl p1), some (.inl l2_10), some (.inl l3_11)]) (S' := []) (fun _ _ => rfl) ?_
              have he0 := Option.some.inj hv
              obtain ⟨ha0, he1⟩ := Prod.mk.inj he0
              clear he0
              subst ha0
              subst he1
              exact ev_go 1 (pc' := 117) (L' := [some (.inr (.inr 18)), some (.inl p1), some (.inl l2_10), some (.inl l3_11)]) (S' := [.inl x18]) (σ' := (SH L0, D19)) (fun _ _ => rfl) hJ
          · refine ev_iff hc 1 (pc' := 81) (L' := [some (.inr (.inr 18)), some (.inl p1), some (.inl l2_10), some (.inl l3_11)]) (S' := []) (σ' := (SH L0, D12)) (fun _ _ => rfl) ?_
            obtain ⟨⟨x22, D23⟩, hx, hv⟩ := bnd hv
            refine ev_call (e_X8_readFunction L0 d (by omega) hx) 2 (pc' := 85) (L' := [some (.inr (.inr 18)), some (.inl p1), some (.inl l2_10), some (.inl l3_11)]) (S' := []) (fun _ _ => rfl) ?_
            have he0 := Option.some.inj hv
            obtain ⟨ha0, he1⟩ := Prod.mk.inj he0
            clear he0
            subst ha0
            subst he1
            exact ev_go 2 (pc' := 118) (L' := [some (.inr (.inr 18)), some (.inl p1), some (.inl x22), some (.inl l3_11)]) (S' := []) (σ' := (SH L0, D23)) (fun _ _ => rfl) hJ
  clear h
  refine ev_go 2 (pc' := 19) (L' := [some (.inr (.inr 18)), some (.inl p1), some (.inl 0), none]) (S' := []) (σ' := (SH L0, dput (dput D1 18 1 0) 18 6 x2)) (fun _ _ => rfl) ?_
  refine loop_ind (P := fun s => EvF mtab d k_X8_read 19 [some (.inr (.inr 18)), some (.inl p1), some (.inl s.1), none] [] (SH L0, s.2) (none, (SH L0, t0))) (X := fun r => ∀ (o7 : Option (Sum Int Nat)), EvF mtab d k_X8_read 37 [some (.inr (.inr 18)), some (.inl p1), dv o7, none] [] (SH L0, r) (none, (SH L0, t0))) hr hX ?_
  clear hr hX
  intro s t hb hK0
  obtain ⟨l2_3, D4⟩ := s
  show EvF mtab d k_X8_read 19 [some (.inr (.inr 18)), some (.inl p1), some (.inl l2_3), none] [] (SH L0, D4) (none, (SH L0, t0))
  unfold b_X8_read_19 at hb
  rcases ite_or hb with ⟨hc, hb⟩ | ⟨hc, hb⟩
  · refine ev_ift hc 3 (pc' := 24) (L' := [some (.inr (.inr 18)), some (.inl p1), some (.inl l2_3), none]) (S' := []) (σ' := (SH L0, D4)) (fun _ _ => rfl) ?_
    obtain ⟨x5, hx, hb⟩ := bnd hb
    obtain ⟨D6, hy, hb⟩ := bnd hb
    refine ev_bind2 (Y := fun x5 => awr D4 34 3 l2_3 x5) hx hy 5 (pc' := 31) (L' := fun x5 D6 => [some (.inr (.inr 18)), some (.inl p1), some (.inl l2_3), none]) (S' := fun x5 D6 => []) (σ' := fun x5 D6 => (SH L0, D6)) (fun _ _ => rfl) ?_
    cases hb
    exact ev_go 2 (pc' := 19) (L' := [some (.inr (.inr 18)), some (.inl p1), some (.inl (w32 (l2_3 + 1))), none]) (S' := []) (σ' := (SH L0, D6)) (fun _ _ => rfl) hK0
  · refine ev_iff hc 3 (pc' := 37) (L' := [some (.inr (.inr 18)), some (.inl p1), some (.inl l2_3), none]) (S' := []) (σ' := (SH L0, D4)) (fun _ _ => rfl) ?_
    cases hb
    exact hK0 (some (.inl l2_3))
set_option maxRecDepth 100000 in
set_option maxHeartbeats 4000000 in
theorem e_X10_enter (L0 d : Nat) (hd : 1 ≤ d) {p1 : Int} {D : DT} {t0 : DT} (h : m_X10_enter p1 D = some t0) : Ret mtab d 119 [.inr (.inr 155), .inl p1] (SH L0, D) (none, (SH L0, t0)) := by
  obtain ⟨d, rfl⟩ : ∃ e, d = e + 1 := ⟨d - 1, by omega⟩
  refine Ret.of (code := k_X10_enter) (ml := 2) rfl ?_
  show EvF mtab d k_X10_enter 0 [some (.inr (.inr 155)), some (.inl p1)] [] (SH L0, D) (none, (SH L0, t0))
  unfold m_X10_enter at h
  obtain ⟨D1, hx, h⟩ := bnd h
  refine ev_bind hx 6 (pc' := 10) (L' := fun D1 => [some (.inr (.inr 155)), some (.inl p1)]) (S' := fun D1 => []) (σ' := fun D1 => (SH L0, D1)) (fun _ _ => rfl) ?_
  obtain ⟨D2, hx, h⟩ := bnd h
  refine ev_bind hx 6 (pc' := 20) (L' := fun D2 => [some (.inr (.inr 155)), some (.inl p1)]) (S' := fun D2 => []) (σ' := fun D2 => (SH L0, D2)) (fun _ _ => rfl) ?_
  cases h
  exact ev_ret 1 (fun _ _ => rfl)
set_option maxRecDepth 100000 in
set_option maxHeartbeats 4000000 in
theorem e_X10_fetch (L0 d : Nat) (hd : 1 ≤ d) {p1 : Int} {D : DT} {t0 : DT} (h : m_X10_fetch p1 D = some t0) : Ret mtab d 121 [.inr (.inr 155), .inl p1] (SH L0, D) (none, (SH L0, t0)) := by
  obtain ⟨d, rfl⟩ : ∃ e, d = e + 1 := ⟨d - 1, by omega⟩
  refine Ret.of (code := k_X10_fetch) (ml := 4) rfl ?_
  show EvF mtab d k_X10_fetch 0 [some (.inr (.inr 155)), some (.inl p1), none, none] [] (SH L0, D) (none, (SH L0, t0))
  unfold m_X10_fetch at h
  obtain ⟨r, hr, h⟩ := bnd h
  have hX : (fun (r : Int) => EvF mtab d k_X10_fetch 26 [some (.inr (.inr 155)), some (.inl p1), some (.inl r), none] [] (SH L0, D) (none, (SH L0, t0))) r := by
    obtain ⟨l2_3, hre⟩ : ∃ q, q = r := ⟨r, rfl⟩
    subst hre
    show EvF mtab d k_X10_fetch 26 [some (.inr (.inr 155)), some (.inl p1), some (.inl l2_3), none] [] (SH L0, D) (none, (SH L0, t0))
    obtain ⟨D4, hv, h⟩ := bnd h
    have hJ : EvF mtab d k_X10_fetch 64 [some (.inr (.inr 155)), some (.inl p1), some (.inl l2_3), none] [] (SH L0, D4) (none, (SH L0, t0)) := by
      obtain ⟨r, hr, h⟩ := bnd h
      have hX : (fun (r : DT) => ∀ (o9 : Option (Sum Int Nat)), EvF mtab d k_X10_fetch 99 [some (.inr (.inr 155)), some (.inl p1), some (.inl l2_3), dv o9] [] (SH L0, r) (none, (SH L0, t0))) r := by
        obtain ⟨D10, hre⟩ : ∃ q, q = r := ⟨r, rfl⟩
        subst hre
        intro o9
        show EvF mtab d k_X10_fetch 99 [some (.inr (.inr 155)), some (.inl p1), some (.inl l2_3), dv o9] [] (SH L0, D10) (none, (SH L0, t0))
        obtain ⟨D11, hx, h⟩ := bnd h
        refine ev_bind hx 5 (pc' := 106) (L' := fun D11 => [some (.inr (.inr 155)), some (.inl p1), some (.inl l2_3), dv o9]) (S' := fun D11 => []) (σ' := fun D11 => (SH L0, D11)) (fun _ _ => rfl) ?_
        cases h
        exact ev_ret 1 (fun _ _ => rfl)
      clear h
      refine ev_go 7 (pc' := 75) (L' := [some (.inr (.inr 155)), some (.inl p1), some (.inl l2_3), some (.inl (if (w32 ((D4 155 6) - 1)) < l2_3 then w32 ((D4 155 6) - 1) else l2_3))]) (S' := []) (σ' := (SH L0, D4)) (fun _ _ => rfl) ?_
      refine loop_ind (P := fun s => EvF mtab d k_X10_fetch 75 [some (.inr (.inr 155)), some (.inl p1), some (.inl l2_3), some (.inl s.1)] [] (SH L0, s.2) (none, (SH L0, t0))) (X := fun r => ∀ (o9 : Option (Sum Int Nat)), EvF mtab d k_X10_fetch 99 [some (.inr (.inr 155)), some (.inl p1), some (.inl l2_3), dv o9] [] (SH L0, r) (none, (SH L0, t0))) hr hX ?_
      clear hr hX
      intro s t hb hK0
      obtain ⟨l3_5, D6⟩ := s
      show EvF mtab d k_X10_fetch 75 [some (.inr (.inr 155)), some (.inl p1), some (.inl l2_3), some (.inl l3_5)] [] (SH L0, D6) (none, (SH L0, t0))
      unfold b_X10_fetch_75 at hb
      rcases ite_or hb with ⟨hc, hb⟩ | ⟨hc, hb⟩
      · refine ev_ift hc 2 (pc' := 79) (L' := [some (.inr (.inr 155)), some (.inl p1), some (.inl l2_3), some (.inl l3_5)]) (S' := []) (σ' := (SH L0, D6)) (fun _ _ => rfl) ?_
        obtain ⟨x7, hx, hb⟩ := bnd hb
        refine ev_bind hx 9 (pc' := 92) (L' := fun x7 => [some (.inr (.inr 155)), some (.inl p1), some (.inl l2_3), some (.inl l3_5)]) (S' := fun x7 => [.inl x7, .inl l3_5, .inr (.inr 156)]) (σ' := fun x7 => (SH L0, D6)) (fun _ _ => rfl) ?_
        obtain ⟨D8, hx, hb⟩ := bnd hb
        refine ev_bind hx 1 (pc' := 93) (L' := fun D8 => [some (.inr (.inr 155)), some (.inl p1), some (.inl l2_3), some (.inl l3_5)]) (S' := fun D8 => []) (σ' := fun D8 => (SH L0, D8)) (fun _ _ => rfl) ?_
        cases hb
        exact ev_go 2 (pc' := 75) (L' := [some (.inr (.inr 155)), some (.inl p1), some (.inl l2_3), some (.inl (w32 (l3_5 + (-1))))]) (S' := []) (σ' := (SH L0, D8)) (fun _ _ => rfl) hK0
      · refine ev_iff hc 2 (pc' := 99) (L' := [some (.inr (.inr 155)), some (.inl p1), some (.inl l2_3), some (.inl l3_5)]) (S' := []) (σ' := (SH L0, D6)) (fun _ _ => rfl) ?_
        cases hb
        exact hK0 (some (.inl l3_5))
    clear h
    rcases ite_or hv with ⟨hc, hv⟩ | ⟨hc, hv⟩
    · refine ev_ift hc 4 (pc' := 34) (L' := [some (.inr (.inr 155)), some (.inl p1), some (.inl l2_3), none]) (S' := []) (σ' := (SH L0, D)) (fun _ _ => rfl) ?_
      have he0 := Option.some.inj hv
      subst he0
      exact ev_go 16 (pc' := 64) (L' := [some (.inr (.inr 155)), some (.inl p1), some (.inl l2_3), none]) (S' := []) (σ' := (SH L0, dput (dput D 155 1 (w32 ((D 155 1) + 1))) 155 6 (if ((dput D 155 1 (w32 ((D 155 1) + 1))) 4 5) < (w32 (((dput D 155 1 (w32 ((D 155 1) + 1))) 155 6) + 1)) then (dput D 155 1 (w32 ((D 155 1) + 1))) 4 5 else w32 (((dput D 155 1 (w32 ((D 155 1) + 1))) 155 6) + 1)))) (fun _ _ => rfl) hJ
    · refine ev_iff hc 4 (pc' := 64) (L' := [some (.inr (.inr 155)), some (.inl p1), some (.inl l2_3), none]) (S' := []) (σ' := (SH L0, D)) (fun _ _ => rfl) ?_
      have he0 := Option.some.inj hv
      subst he0
      exact hJ
  clear h
  refine ev_go 2 (pc' := 2) (L' := [some (.inr (.inr 155)), some (.inl p1), some (.inl 0), none]) (S' := []) (σ' := (SH L0, D)) (fun _ _ => rfl) ?_
  refine loop_ind (P := fun s => EvF mtab d k_X10_fetch 2 [some (.inr (.inr 155)), some (.inl p1), some (.inl s), none] [] (SH L0, D) (none, (SH L0, t0))) (X := fun r => EvF mtab d k_X10_fetch 26 [some (.inr (.inr 155)), some (.inl p1), some (.inl r), none] [] (SH L0, D) (none, (SH L0, t0))) hr hX ?_
  clear hr hX
  intro s t hb hK0
  obtain ⟨l2_1, hre⟩ : ∃ q, q = s := ⟨s, rfl⟩
  subst hre
  show EvF mtab d k_X10_fetch 2 [some (.inr (.inr 155)), some (.inl p1), some (.inl l2_1), none] [] (SH L0, D) (none, (SH L0, t0))
  unfold b_X10_fetch_2 at hb
  rcases ite_or hb with ⟨hc, hb⟩ | ⟨hc, hb⟩
  · refine ev_ift hc 4 (pc' := 10) (L' := [some (.inr (.inr 155)), some (.inl p1), some (.inl l2_1), none]) (S' := []) (σ' := (SH L0, D)) (fun _ _ => rfl) ?_
    obtain ⟨x2, hx, hb⟩ := bnd hb
    refine ev_bind hx 4 (pc' := 16) (L' := fun x2 => [some (.inr (.inr 155)), some (.inl p1), some (.inl l2_1), none]) (S' := fun x2 => [.inl x2]) (σ' := fun x2 => (SH L0, D)) (fun _ _ => rfl) ?_
    rcases ite_or hb with ⟨hc, hb⟩ | ⟨hc, hb⟩
    · refine ev_ift hc 2 (pc' := 26) (L' := [some (.inr (.inr 155)), some (.inl p1), some (.inl l2_1), none]) (S' := []) (σ' := (SH L0, D)) (fun _ _ => rfl) ?_
      cases hb
      exact hK0
    · refine ev_iff hc 2 (pc' := 20) (L' := [some (.inr (.inr 155)), some (.inl p1), some (.inl l2_1), none]) (S' := []) (σ' := (SH L0, D)) (fun _ _ => rfl) ?_
      cases hb
      exact ev_go 2 (pc' := 2) (L' := [some (.inr (.inr 155)), some (.inl p1), some (.inl (w32 (l2_1 + 1))), none]) (S' := []) (σ' := (SH L0, D)) (fun _ _ => rfl) hK0
  · refine ev_iff hc 4 (pc' := 26) (L' := [some (.inr (.inr 155)), some (.inl p1), some (.inl l2_1), none]) (S' := []) (σ' := (SH L0, D)) (fun _ _ => rfl) ?_
    cases hb
    exact hK0
set_option maxRecDepth 100000 in
set_option maxHeartbeats 4000000 in
theorem e_X10_use_155_162_153 (L0 d : Nat) (hd : 3 ≤ d) {p3 : Int} {D : DT} {t0 : DT} (h : m_X10_use 162 p3 D = some t0) : Ret mtab d 120 [.inr (.inr 155), .inr (.inr 162), .inr (.inr 153), .inl p3] (SH L0, D) (none, (SH L0, t0)) := by
  obtain ⟨d, rfl⟩ : ∃ e, d = e + 1 := ⟨d - 1, by omega⟩
  refine Ret.of (code := k_X10_use) (ml := 5) rfl ?_
  show EvF mtab d k_X10_use 0 [some (.inr (.inr 155)), some (.inr (.inr 162)), some (.inr (.inr 153)), some (.inl p3), none] [] (SH L0, D) (none, (SH L0, t0))
  unfold m_X10_use at h
  obtain ⟨x1, hx, h⟩ := bnd h
  refine ev_call (e_X4_firstPage_162 L0 d (by omega) hx) 3 (pc' := 5) (L' := [some (.inr (.inr 155)), some (.inr (.inr 162)), some (.inr (.inr 153)), some (.inl p3), none]) (S' := []) (fun _ _ => rfl) ?_
  obtain ⟨r, hr, h⟩ := bnd h
  have hX : (fun (r : DT) => ∀ (o7 : Option (Sum Int Nat)), EvF mtab d k_X10_use 35 [some (.inr (.inr 155)), some (.inr (.inr 162)), some (.inr (.inr 153)), some (.inl p3), dv o7] [] (SH L0, r) (none, (SH L0, t0))) r := by
    obtain ⟨D8, hre⟩ : ∃ q, q = r := ⟨r, rfl⟩
    subst hre
    intro o7
    show EvF mtab d k_X10_use 35 [some (.inr (.inr 155)), some (.inr (.inr 162)), some (.inr (.inr 153)), some (.inl p3), dv o7] [] (SH L0, D8) (none, (SH L0, t0))
    cases h
    exact ev_ret 1 (fun _ _ => rfl)
  clear h
  refine ev_go 1 (pc' := 7) (L' := [some (.inr (.inr 155)), some (.inr (.inr 162)), some (.inr (.inr 153)), some (.inl p3), some (.inl x1)]) (S' := []) (σ' := (SH L0, D)) (fun _ _ => rfl) ?_
  refine loop_ind (P := fun s => EvF mtab d k_X10_use 7 [some (.inr (.inr 155)), some (.inr (.inr 162)), some (.inr (.inr 153)), some (.inl p3), some (.inl s.1)] [] (SH L0, s.2) (none, (SH L0, t0))) (X := fun r => ∀ (o7 : Option (Sum Int Nat)), EvF mtab d k_X10_use 35 [some (.inr (.inr 155)), some (.inr (.inr 162)), some (.inr (.inr 153)), some (.inl p3), dv o7] [] (SH L0, r) (none, (SH L0, t0))) hr hX ?_
  clear hr hX
  intro s t hb hK0
  obtain ⟨l4_2, D3⟩ := s
  show EvF mtab d k_X10_use 7 [some (.inr (.inr 155)), some (.inr (.inr 162)), some (.inr (.inr 153)), some (.inl p3), some (.inl l4_2)] [] (SH L0, D3) (none, (SH L0, t0))
  unfold b_X10_use_7 at hb
  obtain ⟨x4, hx, hb⟩ := bnd hb
  refine ev_call (e_X4_lastPage_162 L0 d (by omega) hx) 4 (pc' := 14) (L' := [some (.inr (.inr 155)), some (.inr (.inr 162)), some (.inr (.inr 153)), some (.inl p3), some (.inl l4_2)]) (S' := [.inl l4_2]) (fun _ _ => rfl) ?_
  rcases ite_or hb with ⟨hc, hb⟩ | ⟨hc, hb⟩
  · refine ev_ift hc 1 (pc' := 35) (L' := [some (.inr (.inr 155)), some (.inr (.inr 162)), some (.inr (.inr 153)), some (.inl p3), some (.inl l4_2)]) (S' := []) (σ' := (SH L0, D3)) (fun _ _ => rfl) ?_
    cases hb
    exact hK0 (some (.inl l4_2))
  · refine ev_iff hc 1 (pc' := 17) (L' := [some (.inr (.inr 155)), some (.inr (.inr 162)), some (.inr (.inr 153)), some (.inl p3), some (.inl l4_2)]) (S' := []) (σ' := (SH L0, D3)) (fun _ _ => rfl) ?_
    obtain ⟨D5, hx, hb⟩ := bnd hb
    refine ev_call (e_X5_add L0 d (by omega) hx) 3 (pc' := 23) (L' := [some (.inr (.inr 155)), some (.inr (.inr 162)), some (.inr (.inr 153)), some (.inl p3), some (.inl l4_2)]) (S' := []) (fun _ _ => rfl) ?_
    obtain ⟨D6, hx, hb⟩ := bnd hb
    refine ev_call (e_X10_fetch L0 d (by omega) hx) 3 (pc' := 29) (L' := [some (.inr (.inr 155)), some (.inr (.inr 162)), some (.inr (.inr 153)), some (.inl p3), some (.inl l4_2)]) (S' := []) (fun _ _ => rfl) ?_
    cases hb
    exact ev_go 2 (pc' := 7) (L' := [some (.inr (.inr 155)), some (.inr (.inr 162)), some (.inr (.inr 153)), some (.inl p3), some (.inl (w32 (l4_2 + 1)))]) (S' := []) (σ' := (SH L0, D6)) (fun _ _ => rfl) hK0
set_option maxRecDepth 100000 in
set_option maxHeartbeats 4000000 in
theorem e_X10_use_155_167_153 (L0 d : Nat) (hd : 3 ≤ d) {p3 : Int} {D : DT} {t0 : DT} (h : m_X10_use 167 p3 D = some t0) : Ret mtab d 120 [.inr (.inr 155), .inr (.inr 167), .inr (.inr 153), .inl p3] (SH L0, D) (none, (SH L0, t0)) := by
  obtain ⟨d, rfl⟩ : ∃ e, d = e + 1 := ⟨d - 1, by omega⟩
  refine Ret.of (code := k_X10_use) (ml := 5) rfl ?_
  show EvF mtab d k_X10_use 0 [some (.inr (.inr 155)), some (.inr (.inr 167)), some (.inr (.inr 153)), some (.inl p3), none] [] (SH L0, D) (none, (SH L0, t0))
  unfold m_X10_use at h
  obtain ⟨x1, hx, h⟩ := bnd h
  refine ev_call (e_X4_firstPage_167 L0 d (by omega) hx) 3 (pc' := 5) (L' := [some (.inr (.inr 155)), some (.inr (.inr 167)), some (.inr (.inr 153)), some (.inl p3), none]) (S' := []) (fun _ _ => rfl) ?_
  obtain ⟨r, hr, h⟩ := bnd h
  have hX : (fun (r : DT) => ∀ (o7 : Option (Sum Int Nat)), EvF mtab d k_X10_use 35 [some (.inr (.inr 155)), some (.inr (.inr 167)), some (.inr (.inr 153)), some (.inl p3), dv o7] [] (SH L0, r) (none, (SH L0, t0))) r := by
    obtain ⟨D8, hre⟩ : ∃ q, q = r := ⟨r, rfl⟩
    subst hre
    intro o7
    show EvF mtab d k_X10_use 35 [some (.inr (.inr 155)), some (.inr (.inr 167)), some (.inr (.inr 153)), some (.inl p3), dv o7] [] (SH L0, D8) (none, (SH L0, t0))
    cases h
    exact ev_ret 1 (fun _ _ => rfl)
  clear h
  refine ev_go 1 (pc' := 7) (L' := [some (.inr (.inr 155)), some (.inr (.inr 167)), some (.inr (.inr 153)), some (.inl p3), some (.inl x1)]) (S' := []) (σ' := (SH L0, D)) (fun _ _ => rfl) ?_
  refine loop_ind (P := fun s => EvF mtab d k_X10_use 7 [some (.inr (.inr 155)), some (.inr (.inr 167)), some (.inr (.inr 153)), some (.inl p3), some (.inl s.1)] [] (SH L0, s.2) (none, (SH L0, t0))) (X := fun r => ∀ (o7 : Option (Sum Int Nat)), EvF mtab d k_X10_use 35 [some (.inr (.inr 155)), some (.inr (.inr 167)), some (.inr (.inr 153)), some (.inl p3), dv o7] [] (SH L0, r) (none, (SH L0, t0))) hr hX ?_
  clear hr hX
  intro s t hb hK0
  obtain ⟨l4_2, D3⟩ := s
  show EvF mtab d k_X10_use 7 [some (.inr (.inr 155)), some (.inr (.inr 167)), some (.inr (.inr 153)), some (.inl p3), some (.inl l4_2)] [] (SH L0, D3) (none, (SH L0, t0))
  unfold b_X10_use_7 at hb
  obtain ⟨x4, hx, hb⟩ := bnd hb
  refine ev_call (e_X4_lastPage_167 L0 d (by omega) hx) 4 (pc' := 14) (L' := [some (.inr (.inr 155)), some (.inr (.inr 167)), some (.inr (.inr 153)), some (.inl p3), some (.inl l4_2)]) (S' := [.inl l4_2]) (fun _ _ => rfl) ?_
  rcases ite_or hb with ⟨hc, hb⟩ | ⟨hc, hb⟩
  · refine ev_ift hc 1 (pc' := 35) (L' := [some (.inr (.inr 155)), some (.inr (.inr 167)), some (.inr (.inr 153)), some (.inl p3), some (.inl l4_2)]) (S' := []) (σ' := (SH L0, D3)) (fun _ _ => rfl) ?_
    cases hb
    exact hK0 (some (.inl l4_2))
  · refine ev_iff hc 1 (pc' := 17) (L' := [some (.inr (.inr 155)), some (.inr (.inr 167)), some (.inr (.inr 153)), some (.inl p3), some (.inl l4_2)]) (S' := []) (σ' := (SH L0, D3)) (fun _ _ => rfl) ?_
    obtain ⟨D5, hx, hb⟩ := bnd hb
    refine ev_call (e_X5_add L0 d (by omega) hx) 3 (pc' := 23) (L' := [some (.inr (.inr 155)), some (.inr (.inr 167)), some (.inr (.inr 153)), some (.inl p3), some (.inl l4_2)]) (S' := []) (fun _ _ => rfl) ?_
    obtain ⟨D6, hx, hb⟩ := bnd hb
    refine ev_call (e_X10_fetch L0 d (by omega) hx) 3 (pc' := 29) (L' := [some (.inr (.inr 155)), some (.inr (.inr 167)), some (.inr (.inr 153)), some (.inl p3), some (.inl l4_2)]) (S' := []) (fun _ _ => rfl) ?_
    cases hb
    exact ev_go 2 (pc' := 7) (L' := [some (.inr (.inr 155)), some (.inr (.inr 167)), some (.inr (.inr 153)), some (.inl p3), some (.inl (w32 (l4_2 + 1)))]) (S' := []) (σ' := (SH L0, D6)) (fun _ _ => rfl) hK0
set_option maxRecDepth 100000 in
set_option maxHeartbeats 4000000 in
theorem e_X10_use_155_172_153 (L0 d : Nat) (hd : 3 ≤ d) {p3 : Int} {D : DT} {t0 : DT} (h : m_X10_use 172 p3 D = some t0) : Ret mtab d 120 [.inr (.inr 155), .inr (.inr 172), .inr (.inr 153), .inl p3] (SH L0, D) (none, (SH L0, t0)) := by
  obtain ⟨d, rfl⟩ : ∃ e, d = e + 1 := ⟨d - 1, by omega⟩
  refine Ret.of (code := k_X10_use) (ml := 5) rfl ?_
  show EvF mtab d k_X10_use 0 [some (.inr (.inr 155)), some (.inr (.inr 172)), some (.inr (.inr 153)), some (.inl p3), none] [] (SH L0, D) (none, (SH L0, t0))
  unfold m_X10_use at h
  obtain ⟨x1, hx, h⟩ := bnd h
  refine ev_call (e_X4_firstPage_172 L0 d (by omega) hx) 3 (pc' := 5) (L' := [some (.inr (.inr 155)), some (.inr (.inr 172)), some (.inr (.inr 153)), some (.inl p3), none]) (S' := []) (fun _ _ => rfl) ?_
  obtain ⟨r, hr, h⟩ := bnd h
  have hX : (fun (r : DT) => ∀ (o7 : Option (Sum Int Nat)), EvF mtab d k_X10_use 35 [some (.inr (.inr 155)), some (.inr (.inr 172)), some (.inr (.inr 153)), some (.inl p3), dv o7] [] (SH L0, r) (none, (SH L0, t0))) r := by
    obtain ⟨D8, hre⟩ : ∃ q, q = r := ⟨r, rfl⟩
    subst hre
    intro o7
    show EvF mtab d k_X10_use 35 [some (.inr (.inr 155)), some (.inr (.inr 172)), some (.inr (.inr 153)), some (.inl p3), dv o7] [] (SH L0, D8) (none, (SH L0, t0))
    cases h
    exact ev_ret 1 (fun _ _ => rfl)
  clear h
  refine ev_go 1 (pc' := 7) (L' := [some (.inr (.inr 155)), some (.inr (.inr 172)), some (.inr (.inr 153)), some (.inl p3), some (.inl x1)]) (S' := []) (σ' := (SH L0, D)) (fun _ _ => rfl) ?_
  refine loop_ind (P := fun s => EvF mtab d k_X10_use 7 [some (.inr (.inr 155)), some (.inr (.inr 172)), some (.inr (.inr 153)), some (.inl p3), some (.inl s.1)] [] (SH L0, s.2) (none, (SH L0, t0))) (X := fun r => ∀ (o7 : Option (Sum Int Nat)), EvF mtab d k_X10_use 35 [some (.inr (.inr 155)), some (.inr (.inr 172)), some (.inr (.inr 153)), some (.inl p3), dv o7] [] (SH L0, r) (none, (SH L0, t0))) hr hX ?_
  clear hr hX
  intro s t hb hK0
  obtain ⟨l4_2, D3⟩ := s
  show EvF mtab d k_X10_use 7 [some (.inr (.inr 155)), some (.inr (.inr 172)), some (.inr (.inr 153)), some (.inl p3), some (.inl l4_2)] [] (SH L0, D3) (none, (SH L0, t0))
  unfold b_X10_use_7 at hb
  obtain ⟨x4, hx, hb⟩ := bnd hb
  refine ev_call (e_X4_lastPage_172 L0 d (by omega) hx) 4 (pc' := 14) (L' := [some (.inr (.inr 155)), some (.inr (.inr 172)), some (.inr (.inr 153)), some (.inl p3), some (.inl l4_2)]) (S' := [.inl l4_2]) (fun _ _ => rfl) ?_
  rcases ite_or hb with ⟨hc, hb⟩ | ⟨hc, hb⟩
  · refine ev_ift hc 1 (pc' := 35) (L' := [some (.inr (.inr 155)), some (.inr (.inr 172)), some (.inr (.inr 153)), some (.inl p3), some (.inl l4_2)]) (S' := []) (σ' := (SH L0, D3)) (fun _ _ => rfl) ?_
    cases hb
    exact hK0 (some (.inl l4_2))
  · refine ev_iff hc 1 (pc' := 17) (L' := [some (.inr (.inr 155)), some (.inr (.inr 172)), some (.inr (.inr 153)), some (.inl p3), some (.inl l4_2)]) (S' := []) (σ' := (SH L0, D3)) (fun _ _ => rfl) ?_
    obtain ⟨D5, hx, hb⟩ := bnd hb
    refine ev_call (e_X5_add L0 d (by omega) hx) 3 (pc' := 23) (L' := [some (.inr (.inr 155)), some (.inr (.inr 172)), some (.inr (.inr 153)), some (.inl p3), some (.inl l4_2)]) (S' := []) (fun _ _ => rfl) ?_
    obtain ⟨D6, hx, hb⟩ := bnd hb
    refine ev_call (e_X10_fetch L0 d (by omega) hx) 3 (pc' := 29) (L' := [some (.inr (.inr 155)), some (.inr (.inr 172)), some (.inr (.inr 153)), some (.inl p3), some (.inl l4_2)]) (S' := []) (fun _ _ => rfl) ?_
    cases hb
    exact ev_go 2 (pc' := 7) (L' := [some (.inr (.inr 155)), some (.inr (.inr 172)), some (.inr (.inr 153)), some (.inl p3), some (.inl (w32 (l4_2 + 1)))]) (S' := []) (σ' := (SH L0, D6)) (fun _ _ => rfl) hK0
set_option maxRecDepth 100000 in
set_option maxHeartbeats 4000000 in
theorem e_X10_use_155_177_153 (L0 d : Nat) (hd : 3 ≤ d) {p3 : Int} {D : DT} {t0 : DT} (h : m_X10_use 177 p3 D = some t0) : Ret mtab d 120 [.inr (.inr 155), .inr (.inr 177), .inr (.inr 153), .inl p3] (SH L0, D) (none, (SH L0, t0)) := by
  obtain ⟨d, rfl⟩ : ∃ e, d = e + 1 := ⟨d - 1, by omega⟩
  refine Ret.of (code := k_X10_use) (ml := 5) rfl ?_
  show EvF mtab d k_X10_use 0 [some (.inr (.inr 155)), some (.inr (.inr 177)), some (.inr (.inr 153)), some (.inl p3), none] [] (SH L0, D) (none, (SH L0, t0))
  unfold m_X10_use at h
  obtain ⟨x1, hx, h⟩ := bnd h
  refine ev_call (e_X4_firstPage_177 L0 d (by omega) hx) 3 (pc' := 5) (L' := [some (.inr (.inr 155)), some (.inr (.inr 177)), some (.inr (.inr 153)), some (.inl p3), none]) (S' := []) (fun _ _ => rfl) ?_
  obtain ⟨r, hr, h⟩ := bnd h
  have hX : (fun (r : DT) => ∀ (o7 : Option (Sum Int Nat)), EvF mtab d k_X10_use 35 [some (.inr (.inr 155)), some (.inr (.inr 177)), some (.inr (.inr 153)), some (.inl p3), dv o7] [] (SH L0, r) (none, (SH L0, t0))) r := by
    obtain ⟨D8, hre⟩ : ∃ q, q = r := ⟨r, rfl⟩
    subst hre
    intro o7
    show EvF mtab d k_X10_use 35 [some (.inr (.inr 155)), some (.inr (.inr 177)), some (.inr (.inr 153)), some (.inl p3), dv o7] [] (SH L0, D8) (none, (SH L0, t0))
    cases h
    exact ev_ret 1 (fun _ _ => rfl)
  clear h
  refine ev_go 1 (pc' := 7) (L' := [some (.inr (.inr 155)), some (.inr (.inr 177)), some (.inr (.inr 153)), some (.inl p3), some (.inl x1)]) (S' := []) (σ' := (SH L0, D)) (fun _ _ => rfl) ?_
  refine loop_ind (P := fun s => EvF mtab d k_X10_use 7 [some (.inr (.inr 155)), some (.inr (.inr 177)), some (.inr (.inr 153)), some (.inl p3), some (.inl s.1)] [] (SH L0, s.2) (none, (SH L0, t0))) (X := fun r => ∀ (o7 : Option (Sum Int Nat)), EvF mtab d k_X10_use 35 [some (.inr (.inr 155)), some (.inr (.inr 177)), some (.inr (.inr 153)), some (.inl p3), dv o7] [] (SH L0, r) (none, (SH L0, t0))) hr hX ?_
  clear hr hX
  intro s t hb hK0
  obtain ⟨l4_2, D3⟩ := s
  show EvF mtab d k_X10_use 7 [some (.inr (.inr 155)), some (.inr (.inr 177)), some (.inr (.inr 153)), some (.inl p3), some (.inl l4_2)] [] (SH L0, D3) (none, (SH L0, t0))
  unfold b_X10_use_7 at hb
  obtain ⟨x4, hx, hb⟩ := bnd hb
  refine ev_call (e_X4_lastPage_177 L0 d (by omega) hx) 4 (pc' := 14) (L' := [some (.inr (.inr 155)), some (.inr (.inr 177)), some (.inr (.inr 153)), some (.inl p3), some (.inl l4_2)]) (S' := [.inl l4_2]) (fun _ _ => rfl) ?_
  rcases ite_or hb with ⟨hc, hb⟩ | ⟨hc, hb⟩
  · refine ev_ift hc 1 (pc' := 35) (L' := [some (.inr (.inr 155)), some (.inr (.inr 177)), some (.inr (.inr 153)), some (.inl p3), some (.inl l4_2)]) (S' := []) (σ' := (SH L0, D3)) (fun _ _ => rfl) ?_
    cases hb
    exact hK0 (some (.inl l4_2))
  · refine ev_iff hc 1 (pc' := 17) (L' := [some (.inr (.inr 155)), some (.inr (.inr 177)), some (.inr (.inr 153)), some (.inl p3), some (.inl l4_2)]) (S' := []) (σ' := (SH L0, D3)) (fun _ _ => rfl) ?_
    obtain ⟨D5, hx, hb⟩ := bnd hb
    refine ev_call (e_X5_add L0 d (by omega) hx) 3 (pc' := 23) (L' := [some (.inr (.inr 155)), some (.inr (.inr 177)), some (.inr (.inr 153)), some (.inl p3), some (.inl l4_2)]) (S' := []) (fun _ _ => rfl) ?_
    obtain ⟨D6, hx, hb⟩ := bnd hb
    refine ev_call (e_X10_fetch L0 d (by omega) hx) 3 (pc' := 29) (L' := [some (.inr (.inr 155)), some (.inr (.inr 177)), some (.inr (.inr 153)), some (.inl p3), some (.inl l4_2)]) (S' := []) (fun _ _ => rfl) ?_
    cases hb
    exact ev_go 2 (pc' := 7) (L' := [some (.inr (.inr 155)), some (.inr (.inr 177)), some (.inr (.inr 153)), some (.inl p3), some (.inl (w32 (l4_2 + 1)))]) (S' := []) (σ' := (SH L0, D6)) (fun _ _ => rfl) hK0
set_option maxRecDepth 100000 in
set_option maxHeartbeats 4000000 in
theorem e_X10_use_155_182_153 (L0 d : Nat) (hd : 3 ≤ d) {p3 : Int} {D : DT} {t0 : DT} (h : m_X10_use 182 p3 D = some t0) : Ret mtab d 120 [.inr (.inr 155), .inr (.inr 182), .inr (.inr 153), .inl p3] (SH L0, D) (none, (SH L0, t0)) := by
  obtain ⟨d, rfl⟩ : ∃ e, d = e + 1 := ⟨d - 1, by omega⟩
  refine Ret.of (code := k_X10_use) (ml := 5) rfl ?_
  show EvF mtab d k_X10_use 0 [some (.inr (.inr 155)), some (.inr (.inr 182)), some (.inr (.inr 153)), some (.inl p3), none] [] (SH L0, D) (none, (SH L0, t0))
  unfold m_X10_use at h
  obtain ⟨x1, hx, h⟩ := bnd h
  refine ev_call (e_X4_firstPage_182 L0 d (by omega) hx) 3 (pc' := 5) (L' := [some (.inr (.inr 155)), some (.inr (.inr 182)), some (.inr (.inr 153)), some (.inl p3), none]) (S' := []) (fun _ _ => rfl) ?_
  obtain ⟨r, hr, h⟩ := bnd h
  have hX : (fun (r : DT) => ∀ (o7 : Option (Sum Int Nat)), EvF mtab d k_X10_use 35 [some (.inr (.inr 155)), some (.inr (.inr 182)), some (.inr (.inr 153)), some (.inl p3), dv o7] [] (SH L0, r) (none, (SH L0, t0))) r := by
    obtain ⟨D8, hre⟩ : ∃ q, q = r := ⟨r, rfl⟩
    subst hre
    intro o7
    show EvF mtab d k_X10_use 35 [some (.inr (.inr 155)), some (.inr (.inr 182)), some (.inr (.inr 153)), some (.inl p3), dv o7] [] (SH L0, D8) (none, (SH L0, t0))
    cases h
    exact ev_ret 1 (fun _ _ => rfl)
  clear h
  refine ev_go 1 (pc' := 7) (L' := [some (.inr (.inr 155)), some (.inr (.inr 182)), some (.inr (.inr 153)), some (.inl p3), some (.inl x1)]) (S' := []) (σ' := (SH L0, D)) (fun _ _ => rfl) ?_
  refine loop_ind (P := fun s => EvF mtab d k_X10_use 7 [some (.inr (.inr 155)), some (.inr (.inr 182)), some (.inr (.inr 153)), some (.inl p3), some (.inl s.1)] [] (SH L0, s.2) (none, (SH L0, t0))) (X := fun r => ∀ (o7 : Option (Sum Int Nat)), EvF mtab d k_X10_use 35 [some (.inr (.inr 155)), some (.inr (.inr 182)), some (.inr (.inr 153)), some (.inl p3), dv o7] [] (SH L0, r) (none, (SH L0, t0))) hr hX ?_
  clear hr hX
  intro s t hb hK0
  obtain ⟨l4_2, D3⟩ := s
  show EvF mtab d k_X10_use 7 [some (.inr (.inr 155)), some (.inr (.inr 182)), some (.inr (.inr 153)), some (.inl p3), some (.inl l4_2)] [] (SH L0, D3) (none, (SH L0, t0))
  unfold b_X10_use_7 at hb
  obtain ⟨x4, hx, hb⟩ := bnd hb
  refine ev_call (e_X4_lastPage_182 L0 d (by omega) hx) 4 (pc' := 14) (L' := [some (.inr (.inr 155)), some (.inr (.inr 182)), some (.inr (.inr 153)), some (.inl p3), some (.inl l4_2)]) (S' := [.inl l4_2]) (fun _ _ => rfl) ?_
  rcases ite_or hb with ⟨hc, hb⟩ | ⟨hc, hb⟩
  · refine ev_ift hc 1 (pc' := 35) (L' := [some (.inr (.inr 155)), some (.inr (.inr 182)), some (.inr (.inr 153)), some (.inl p3), some (.inl l4_2)]) (S' := []) (σ' := (SH L0, D3)) (fun _ _ => rfl) ?_
    cases hb
    exact hK0 (some (.inl l4_2))
  · refine ev_iff hc 1 (pc' := 17) (L' := [some (.inr (.inr 155)), some (.inr (.inr 182)), some (.inr (.inr 153)), some (.inl p3), some (.inl l4_2)]) (S' := []) (σ' := (SH L0, D3)) (fun _ _ => rfl) ?_
    obtain ⟨D5, hx, hb⟩ := bnd hb
    refine ev_call (e_X5_add L0 d (by omega) hx) 3 (pc' := 23) (L' := [some (.inr (.inr 155)), some (.inr (.inr 182)), some (.inr (.inr 153)), some (.inl p3), some (.inl l4_2)]) (S' := []) (fun _ _ => rfl) ?_
    obtain ⟨D6, hx, hb⟩ := bnd hb
    refine ev_call (e_X10_fetch L0 d (by omega) hx) 3 (pc' := 29) (L' := [some (.inr (.inr 155)), some (.inr (.inr 182)), some (.inr (.inr 153)), some (.inl p3), some (.inl l4_2)]) (S' := []) (fun _ _ => rfl) ?_
    cases hb
    exact ev_go 2 (pc' := 7) (L' := [some (.inr (.inr 155)), some (.inr (.inr 182)), some (.inr (.inr 153)), some (.inl p3), some (.inl (w32 (l4_2 + 1)))]) (S' := []) (σ' := (SH L0, D6)) (fun _ _ => rfl) hK0
set_option maxRecDepth 100000 in
set_option maxHeartbeats 4000000 in
theorem e_X10_makeCall (L0 d : Nat) (hd : 3 ≤ d) {p1 : Int} {D : DT} {t0 : (Int × DT)} (h : m_X10_makeCall p1 D = some t0) : Ret mtab d 123 [.inr (.inr 155), .inl p1] (SH L0, D) (some (.inl t0.1), (SH L0, t0.2)) := by
  obtain ⟨d, rfl⟩ : ∃ e, d = e + 1 := ⟨d - 1, by omega⟩
  refine Ret.of (code := k_X10_makeCall) (ml := 3) rfl ?_
  show EvF mtab d k_X10_makeCall 0 [some (.inr (.inr 155)), some (.inl p1), none] [] (SH L0, D) (some (.inl t0.1), (SH L0, t0.2))
  unfold m_X10_makeCall at h
  obtain ⟨x1, hx, h⟩ := bnd h
  refine ev_bind hx 11 (pc' := 19) (L' := fun x1 => [some (.inr (.inr 155)), some (.inl p1), none]) (S' := fun x1 => [.inl x1, .inl (w32 (2 * p1)), .inr (.inr 11)]) (σ' := fun x1 => (SH L0, D)) (fun _ _ => rfl) ?_
  obtain ⟨x2, hx, h⟩ := bnd h
  refine ev_bind hx 2 (pc' := 21) (L' := fun x2 => [some (.inr (.inr 155)), some (.inl p1), none]) (S' := fun x2 => [.inl x2]) (σ' := fun x2 => (SH L0, D)) (fun _ _ => rfl) ?_
  obtain ⟨x3, hx, h⟩ := bnd h
  refine ev_bind hx 7 (pc' := 32) (L' := fun x3 => [some (.inr (.inr 155)), some (.inl p1), some (.inl x2)]) (S' := fun x3 => [.inl x3, .inl (D 155 9), .inr (.inr 158)]) (σ' := fun x3 => (SH L0, D)) (fun _ _ => rfl) ?_
  obtain ⟨D4, hx, h⟩ := bnd h
  refine ev_bind hx 3 (pc' := 35) (L' := fun D4 => [some (.inr (.inr 155)), some (.inl p1), some (.inl x2)]) (S' := fun D4 => []) (σ' := fun D4 => (SH L0, D4)) (fun _ _ => rfl) ?_
  rcases ite_or h with ⟨hc, h⟩ | ⟨hc, h⟩
  · refine ev_ift hc 6 (pc' := 46) (L' := [some (.inr (.inr 155)), some (.inl p1), some (.inl x2)]) (S' := []) (σ' := (SH L0, D4)) (fun _ _ => rfl) ?_
    rcases ite_or h with ⟨hc, h⟩ | ⟨hc, h⟩
    · refine ev_ift hc 3 (pc' := 51) (L' := [some (.inr (.inr 155)), some (.inl p1), some (.inl x2)]) (S' := []) (σ' := (SH L0, D4)) (fun _ _ => rfl) ?_
      cases h
      exact ev_ret 2 (fun _ _ => rfl)
    · refine ev_iff hc 3 (pc' := 53) (L' := [some (.inr (.inr 155)), some (.inl p1), some (.inl x2)]) (S' := []) (σ' := (SH L0, D4)) (fun _ _ => rfl) ?_
      obtain ⟨x5, hx, h⟩ := bnd h
      refine ev_call (e_X7_entryOf_4 L0 d (by omega) hx) 11 (pc' := 72) (L' := [some (.inr (.inr 155)), some (.inl p1), some (.inl x2)]) (S' := [.inr (.inr 155)]) (fun _ _ => rfl) ?_
      obtain ⟨D6, hx, h⟩ := bnd h
      refine ev_call (e_X10_enter L0 d (by omega) hx) 1 (pc' := 75) (L' := [some (.inr (.inr 155)), some (.inl p1), some (.inl x2)]) (S' := []) (fun _ _ => rfl) ?_
      cases h
      exact ev_ret 2 (fun _ _ => rfl)
  · refine ev_iff hc 6 (pc' := 51) (L' := [some (.inr (.inr 155)), some (.inl p1), some (.inl x2)]) (S' := []) (σ' := (SH L0, D4)) (fun _ _ => rfl) ?_
    cases h
    exact ev_ret 2 (fun _ _ => rfl)
set_option maxRecDepth 100000 in
set_option maxHeartbeats 4000000 in
theorem e_X10_isFirst (L0 d : Nat) (hd : 2 ≤ d) {p1 : Int} {D : DT} {t0 : (Int × DT)} (h : m_X10_isFirst p1 D = some t0) : Ret mtab d 125 [.inr (.inr 155), .inl p1] (SH L0, D) (some (.inl t0.1), (SH L0, t0.2)) := by
  obtain ⟨d, rfl⟩ : ∃ e, d = e + 1 := ⟨d - 1, by omega⟩
  refine Ret.of (code := k_X10_isFirst) (ml := 4) rfl ?_
  show EvF mtab d k_X10_isFirst 0 [some (.inr (.inr 155)), some (.inl p1), none, none] [] (SH L0, D) (some (.inl t0.1), (SH L0, t0.2))
  unfold m_X10_isFirst at h
  obtain ⟨x1, hx, h⟩ := bnd h
  refine ev_call (e_X2_worth L0 d (by omega) hx) 4 (pc' := 8) (L' := [some (.inr (.inr 155)), some (.inl p1), none, none]) (S' := []) (fun _ _ => rfl) ?_
  obtain ⟨x2, hx, h⟩ := bnd h
  refine ev_call (e_X2_worth L0 d (by omega) hx) 8 (pc' := 20) (L' := [some (.inr (.inr 155)), some (.inl p1), some (.inl x1), none]) (S' := [.inl x1]) (fun _ _ => rfl) ?_
  rcases ite_or h with ⟨hc, h⟩ | ⟨hc, h⟩
  · refine ev_ift hc 4 (pc' := 28) (L' := [some (.inr (.inr 155)), some (.inl p1), some (.inl x1), some (.inl (w32 (x1 + x2)))]) (S' := []) (σ' := (SH L0, D)) (fun _ _ => rfl) ?_
    obtain ⟨x3, hx, h⟩ := bnd h
    refine ev_bind hx 9 (pc' := 42) (L' := fun x3 => [some (.inr (.inr 155)), some (.inl p1), some (.inl x1), some (.inl (w32 (x1 + x2)))]) (S' := fun x3 => [.inl x3, .inr (.inr 155)]) (σ' := fun x3 => (SH L0, D)) (fun _ _ => rfl) ?_
    obtain ⟨x4, hx, h⟩ := bnd h
    refine ev_bind hx 5 (pc' := 51) (L' := fun x4 => [some (.inr (.inr 155)), some (.inl p1), some (.inl x1), some (.inl (w32 (x1 + x2)))]) (S' := fun x4 => [.inl x4]) (σ' := fun x4 => (SH L0, dput D 155 10 x3)) (fun _ _ => rfl) ?_
    rcases ite_or h with ⟨hc, h⟩ | ⟨hc, h⟩
    · refine ev_ift hc 2 (pc' := 55) (L' := [some (.inr (.inr 155)), some (.inl p1), some (.inl x1), some (.inl (w32 (x1 + x2)))]) (S' := []) (σ' := (SH L0, dput D 155 10 x3)) (fun _ _ => rfl) ?_
      cases h
      exact ev_ret 3 (fun _ _ => rfl)
    · refine ev_iff hc 2 (pc' := 59) (L' := [some (.inr (.inr 155)), some (.inl p1), some (.inl x1), some (.inl (w32 (x1 + x2)))]) (S' := []) (σ' := (SH L0, dput D 155 10 x3)) (fun _ _ => rfl) ?_
      cases h
      exact ev_ret 2 (fun _ _ => rfl)
  · refine ev_iff hc 4 (pc' := 26) (L' := [some (.inr (.inr 155)), some (.inl p1), some (.inl x1), some (.inl (w32 (x1 + x2)))]) (S' := []) (σ' := (SH L0, D)) (fun _ _ => rfl) ?_
    cases h
    exact ev_ret 2 (fun _ _ => rfl)
set_option maxRecDepth 100000 in
set_option maxHeartbeats 4000000 in
theorem e_X10_leave_155_162 (L0 d : Nat) (hd : 3 ≤ d) {p2 : Int} {D : DT} {t0 : DT} (h : m_X10_leave 162 p2 D = some t0) : Ret mtab d 124 [.inr (.inr 155), .inr (.inr 162), .inl p2] (SH L0, D) (none, (SH L0, t0)) := by
  obtain ⟨d, rfl⟩ : ∃ e, d = e + 1 := ⟨d - 1, by omega⟩
  refine Ret.of (code := k_X10_leave) (ml := 4) rfl ?_
  show EvF mtab d k_X10_leave 0 [some (.inr (.inr 155)), some (.inr (.inr 162)), some (.inl p2), none] [] (SH L0, D) (none, (SH L0, t0))
  unfold m_X10_leave at h
  obtain ⟨x1, hx, h⟩ := bnd h
  refine ev_bind hx 5 (pc' := 9) (L' := fun x1 => [some (.inr (.inr 155)), some (.inr (.inr 162)), some (.inl p2), none]) (S' := fun x1 => [.inl x1]) (σ' := fun x1 => (SH L0, D)) (fun _ _ => rfl) ?_
  obtain ⟨x2, hx, h⟩ := bnd h
  refine ev_bind hx 6 (pc' := 19) (L' := fun x2 => [some (.inr (.inr 155)), some (.inr (.inr 162)), some (.inl p2), some (.inl x1)]) (S' := fun x2 => [.inl x2]) (σ' := fun x2 => (SH L0, D)) (fun _ _ => rfl) ?_
  obtain ⟨⟨l3_5, D6⟩, hv, h⟩ := bnd h
  have hJ : EvF mtab d k_X10_leave 34 [some (.inr (.inr 155)), some (.inr (.inr 162)), some (.inl p2), some (.inl l3_5)] [] (SH L0, D6) (none, (SH L0, t0)) := by
    obtain ⟨x7, hx, h⟩ := bnd h
    refine ev_call (e_X4_isFall_162 L0 d (by omega) hx) 3 (pc' := 39) (L' := [some (.inr (.inr 155)), some (.inr (.inr 162)), some (.inl p2), some (.inl l3_5)]) (S' := []) (fun _ _ => rfl) ?_
    obtain ⟨D8, hv, h⟩ := bnd h
    have hJ : EvF mtab d k_X10_leave 52 [some (.inr (.inr 155)), some (.inr (.inr 162)), some (.inl p2), some (.inl l3_5)] [] (SH L0, D8) (none, (SH L0, t0)) := by
      obtain ⟨x9, hx, h⟩ := bnd h
      refine ev_bind hx 6 (pc' := 62) (L' := fun x9 => [some (.inr (.inr 155)), some (.inr (.inr 162)), some (.inl p2), some (.inl l3_5)]) (S' := fun x9 => [.inl x9, .inr (.inr 155)]) (σ' := fun x9 => (SH L0, D8)) (fun _ _ => rfl) ?_
      obtain ⟨D10, hx, h⟩ := bnd h
      refine ev_call (e_X10_enter L0 d (by omega) hx) 1 (pc' := 65) (L' := [some (.inr (.inr 155)), some (.inr (.inr 162)), some (.inl p2), some (.inl l3_5)]) (S' := []) (fun _ _ => rfl) ?_
      cases h
      exact ev_ret 1 (fun _ _ => rfl)
    clear h
    rcases ite_or hv with ⟨hc, hv⟩ | ⟨hc, hv⟩
    · refine ev_ift hc 1 (pc' := 42) (L' := [some (.inr (.inr 155)), some (.inr (.inr 162)), some (.inl p2), some (.inl l3_5)]) (S' := []) (σ' := (SH L0, D6)) (fun _ _ => rfl) ?_
      have he0 := Option.some.inj hv
      subst he0
      exact ev_go 6 (pc' := 52) (L' := [some (.inr (.inr 155)), some (.inr (.inr 162)), some (.inl p2), some (.inl l3_5)]) (S' := []) (σ' := (SH L0, dput D6 155 2 (w32 ((D6 155 2) + 1)))) (fun _ _ => rfl) hJ
    · refine ev_iff hc 1 (pc' := 52) (L' := [some (.inr (.inr 155)), some (.inr (.inr 162)), some (.inl p2), some (.inl l3_5)]) (S' := []) (σ' := (SH L0, D6)) (fun _ _ => rfl) ?_
      have he0 := Option.some.inj hv
      subst he0
      exact hJ
  clear h
  rcases ite_or hv with ⟨hc, hv⟩ | ⟨hc, hv⟩
  · refine ev_ift hc 2 (pc' := 23) (L' := [some (.inr (.inr 155)), some (.inr (.inr 162)), some (.inl p2), some (.inl x1)]) (S' := []) (σ' := (SH L0, D)) (fun _ _ => rfl) ?_
    obtain ⟨⟨x3, D4⟩, hx, hv⟩ := bnd hv
    refine ev_call (e_X10_isFirst L0 d (by omega) hx) 3 (pc' := 28) (L' := [some (.inr (.inr 155)), some (.inr (.inr 162)), some (.inl p2), some (.inl x1)]) (S' := []) (fun _ _ => rfl) ?_
    rcases ite_or hv with ⟨hc, hv⟩ | ⟨hc, hv⟩
    · refine ev_ift hc 1 (pc' := 31) (L' := [some (.inr (.inr 155)), some (.inr (.inr 162)), some (.inl p2), some (.inl x1)]) (S' := []) (σ' := (SH L0, D4)) (fun _ _ => rfl) ?_
      have he0 := Option.some.inj hv
      obtain ⟨ha0, he1⟩ := Prod.mk.inj he0
      clear he0
      subst ha0
      subst he1
      exact ev_go 1 (pc' := 34) (L' := [some (.inr (.inr 155)), some (.inr (.inr 162)), some (.inl p2), some (.inl (w32 (x1 + 1)))]) (S' := []) (σ' := (SH L0, D4)) (fun _ _ => rfl) hJ
    · refine ev_iff hc 1 (pc' := 34) (L' := [some (.inr (.inr 155)), some (.inr (.inr 162)), some (.inl p2), some (.inl x1)]) (S' := []) (σ' := (SH L0, D4)) (fun _ _ => rfl) ?_
      have he0 := Option.some.inj hv
      obtain ⟨ha0, he1⟩ := Prod.mk.inj he0
      clear he0
      subst ha0
      subst he1
      exact hJ
  · refine ev_iff hc 2 (pc' := 34) (L' := [some (.inr (.inr 155)), some (.inr (.inr 162)), some (.inl p2), some (.inl x1)]) (S' := []) (σ' := (SH L0, D)) (fun _ _ => rfl) ?_
    have he0 := Option.some.inj hv
    obtain ⟨ha0, he1⟩ := Prod.mk.inj he0
    clear he0
    subst ha0
    subst he1
    exact hJ
