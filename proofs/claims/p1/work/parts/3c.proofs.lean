set_option maxRecDepth 100000 in
set_option maxHeartbeats 4000000 in
theorem e_X4_isFall_177 (L0 d : Nat) (hd : 2 ≤ d) {p1 : Int} {D : DT} {t0 : Int} (h : m_X4_isFall 177 p1 D = some t0) : Ret mtab d 49 [.inr (.inr 177), .inl p1] (SH L0, D) (some (.inl t0), (SH L0, D)) := by
  obtain ⟨d, rfl⟩ : ∃ e, d = e + 1 := ⟨d - 1, by omega⟩
  refine Ret.of (code := k_X4_isFall) (ml := 2) rfl ?_
  show EvF mtab d k_X4_isFall 0 [some (.inr (.inr 177)), some (.inl p1)] [] (SH L0, D) (some (.inl t0), (SH L0, D))
  unfold m_X4_isFall at h
  obtain ⟨x1, hx, h⟩ := bnd h
  refine ev_call (e_X7_isInside_4 L0 d (by omega) hx) 4 (pc' := 8) (L' := [some (.inr (.inr 177)), some (.inl p1)]) (S' := []) (fun _ _ => rfl) ?_
  rcases ite_or h with ⟨hc, h⟩ | ⟨hc, h⟩
  · refine ev_ift hc 1 (pc' := 48) (L' := [some (.inr (.inr 177)), some (.inl p1)]) (S' := []) (σ' := (SH L0, D)) (fun _ _ => rfl) ?_
    cases h
    exact ev_ret 2 (fun _ _ => rfl)
  · refine ev_iff hc 1 (pc' := 11) (L' := [some (.inr (.inr 177)), some (.inl p1)]) (S' := []) (σ' := (SH L0, D)) (fun _ _ => rfl) ?_
    obtain ⟨x2, hx, h⟩ := bnd h
    refine ev_bind hx 7 (pc' := 24) (L' := fun x2 => [some (.inr (.inr 177)), some (.inl p1)]) (S' := fun x2 => [.inl x2, .inr (.inr 179)]) (σ' := fun x2 => (SH L0, D)) (fun _ _ => rfl) ?_
    obtain ⟨x3, hx, h⟩ := bnd h
    refine ev_bind hx 1 (pc' := 25) (L' := fun x3 => [some (.inr (.inr 177)), some (.inl p1)]) (S' := fun x3 => [.inl x3]) (σ' := fun x3 => (SH L0, D)) (fun _ _ => rfl) ?_
    obtain ⟨x4, hx, h⟩ := bnd h
    refine ev_bind hx 7 (pc' := 38) (L' := fun x4 => [some (.inr (.inr 177)), some (.inl p1)]) (S' := fun x4 => [.inl x4, .inr (.inr 179), .inl x3]) (σ' := fun x4 => (SH L0, D)) (fun _ _ => rfl) ?_
    obtain ⟨x5, hx, h⟩ := bnd h
    refine ev_bind hx 1 (pc' := 39) (L' := fun x5 => [some (.inr (.inr 177)), some (.inl p1)]) (S' := fun x5 => [.inl x5, .inl x3]) (σ' := fun x5 => (SH L0, D)) (fun _ _ => rfl) ?_
    rcases ite_or h with ⟨hc, h⟩ | ⟨hc, h⟩
    · refine ev_ift hc 3 (pc' := 44) (L' := [some (.inr (.inr 177)), some (.inl p1)]) (S' := []) (σ' := (SH L0, D)) (fun _ _ => rfl) ?_
      cases h
      exact ev_ret 3 (fun _ _ => rfl)
    · refine ev_iff hc 3 (pc' := 48) (L' := [some (.inr (.inr 177)), some (.inl p1)]) (S' := []) (σ' := (SH L0, D)) (fun _ _ => rfl) ?_
      cases h
      exact ev_ret 2 (fun _ _ => rfl)
set_option maxRecDepth 100000 in
set_option maxHeartbeats 4000000 in
theorem e_X4_isFall_182 (L0 d : Nat) (hd : 2 ≤ d) {p1 : Int} {D : DT} {t0 : Int} (h : m_X4_isFall 182 p1 D = some t0) : Ret mtab d 49 [.inr (.inr 182), .inl p1] (SH L0, D) (some (.inl t0), (SH L0, D)) := by
  obtain ⟨d, rfl⟩ : ∃ e, d = e + 1 := ⟨d - 1, by omega⟩
  refine Ret.of (code := k_X4_isFall) (ml := 2) rfl ?_
  show EvF mtab d k_X4_isFall 0 [some (.inr (.inr 182)), some (.inl p1)] [] (SH L0, D) (some (.inl t0), (SH L0, D))
  unfold m_X4_isFall at h
  obtain ⟨x1, hx, h⟩ := bnd h
  refine ev_call (e_X7_isInside_4 L0 d (by omega) hx) 4 (pc' := 8) (L' := [some (.inr (.inr 182)), some (.inl p1)]) (S' := []) (fun _ _ => rfl) ?_
  rcases ite_or h with ⟨hc, h⟩ | ⟨hc, h⟩
  · refine ev_ift hc 1 (pc' := 48) (L' := [some (.inr (.inr 182)), some (.inl p1)]) (S' := []) (σ' := (SH L0, D)) (fun _ _ => rfl) ?_
    cases h
    exact ev_ret 2 (fun _ _ => rfl)
  · refine ev_iff hc 1 (pc' := 11) (L' := [some (.inr (.inr 182)), some (.inl p1)]) (S' := []) (σ' := (SH L0, D)) (fun _ _ => rfl) ?_
    obtain ⟨x2, hx, h⟩ := bnd h
    refine ev_bind hx 7 (pc' := 24) (L' := fun x2 => [some (.inr (.inr 182)), some (.inl p1)]) (S' := fun x2 => [.inl x2, .inr (.inr 184)]) (σ' := fun x2 => (SH L0, D)) (fun _ _ => rfl) ?_
    obtain ⟨x3, hx, h⟩ := bnd h
    refine ev_bind hx 1 (pc' := 25) (L' := fun x3 => [some (.inr (.inr 182)), some (.inl p1)]) (S' := fun x3 => [.inl x3]) (σ' := fun x3 => (SH L0, D)) (fun _ _ => rfl) ?_
    obtain ⟨x4, hx, h⟩ := bnd h
    refine ev_bind hx 7 (pc' := 38) (L' := fun x4 => [some (.inr (.inr 182)), some (.inl p1)]) (S' := fun x4 => [.inl x4, .inr (.inr 184), .inl x3]) (σ' := fun x4 => (SH L0, D)) (fun _ _ => rfl) ?_
    obtain ⟨x5, hx, h⟩ := bnd h
    refine ev_bind hx 1 (pc' := 39) (L' := fun x5 => [some (.inr (.inr 182)), some (.inl p1)]) (S' := fun x5 => [.inl x5, .inl x3]) (σ' := fun x5 => (SH L0, D)) (fun _ _ => rfl) ?_
    rcases ite_or h with ⟨hc, h⟩ | ⟨hc, h⟩
    · refine ev_ift hc 3 (pc' := 44) (L' := [some (.inr (.inr 182)), some (.inl p1)]) (S' := []) (σ' := (SH L0, D)) (fun _ _ => rfl) ?_
      cases h
      exact ev_ret 3 (fun _ _ => rfl)
    · refine ev_iff hc 3 (pc' := 48) (L' := [some (.inr (.inr 182)), some (.inl p1)]) (S' := []) (σ' := (SH L0, D)) (fun _ _ => rfl) ?_
      cases h
      exact ev_ret 2 (fun _ _ => rfl)
set_option maxRecDepth 100000 in
set_option maxHeartbeats 4000000 in
theorem e_X4_needsJump_162 (L0 d : Nat) (hd : 3 ≤ d) {p1 : Int} {D : DT} {t0 : Int} (h : m_X4_needsJump 162 p1 D = some t0) : Ret mtab d 48 [.inr (.inr 162), .inl p1] (SH L0, D) (some (.inl t0), (SH L0, D)) := by
  obtain ⟨d, rfl⟩ : ∃ e, d = e + 1 := ⟨d - 1, by omega⟩
  refine Ret.of (code := k_X4_needsJump) (ml := 3) rfl ?_
  show EvF mtab d k_X4_needsJump 0 [some (.inr (.inr 162)), some (.inl p1), none] [] (SH L0, D) (some (.inl t0), (SH L0, D))
  unfold m_X4_needsJump at h
  obtain ⟨x1, hx, h⟩ := bnd h
  refine ev_bind hx 5 (pc' := 9) (L' := fun x1 => [some (.inr (.inr 162)), some (.inl p1), none]) (S' := fun x1 => [.inl x1]) (σ' := fun x1 => (SH L0, D)) (fun _ _ => rfl) ?_
  rcases ite_or h with ⟨hc, h⟩ | ⟨hc, h⟩
  · refine ev_ift hc 1 (pc' := 12) (L' := [some (.inr (.inr 162)), some (.inl p1), none]) (S' := []) (σ' := (SH L0, D)) (fun _ _ => rfl) ?_
    cases h
    exact ev_ret 2 (fun _ _ => rfl)
  · refine ev_iff hc 1 (pc' := 14) (L' := [some (.inr (.inr 162)), some (.inl p1), none]) (S' := []) (σ' := (SH L0, D)) (fun _ _ => rfl) ?_
    obtain ⟨r, hr, h⟩ := bnd h
    have hX : (fun (r : (Unit ⊕ Unit)) => match r with | .inl r => (∀ (o6 : Option (Sum Int Nat)), EvF mtab d k_X4_needsJump 46 [some (.inr (.inr 162)), some (.inl p1), dv o6] [] (SH L0, D) (some (.inl t0), (SH L0, D))) | .inr r => (∀ (o7 : Option (Sum Int Nat)), EvF mtab d k_X4_needsJump 54 [some (.inr (.inr 162)), some (.inl p1), dv o7] [] (SH L0, D) (some (.inl t0), (SH L0, D)))) r := by
      rcases r with r | r
      · skip
        intro o6
        show EvF mtab d k_X4_needsJump 46 [some (.inr (.inr 162)), some (.inl p1), dv o6] [] (SH L0, D) (some (.inl t0), (SH L0, D))
        cases h
        exact ev_ret 2 (fun _ _ => rfl)
      intro o7
      show EvF mtab d k_X4_needsJump 54 [some (.inr (.inr 162)), some (.inl p1), dv o7] [] (SH L0, D) (some (.inl t0), (SH L0, D))
      cases h
      exact ev_ret 2 (fun _ _ => rfl)
    clear h
    refine ev_go 2 (pc' := 16) (L' := [some (.inr (.inr 162)), some (.inl p1), some (.inl 0)]) (S' := []) (σ' := (SH L0, D)) (fun _ _ => rfl) ?_
    refine loop_ind (P := fun s => EvF mtab d k_X4_needsJump 16 [some (.inr (.inr 162)), some (.inl p1), some (.inl s)] [] (SH L0, D) (some (.inl t0), (SH L0, D))) (X := fun r => match r with | .inl r => (∀ (o6 : Option (Sum Int Nat)), EvF mtab d k_X4_needsJump 46 [some (.inr (.inr 162)), some (.inl p1), dv o6] [] (SH L0, D) (some (.inl t0), (SH L0, D))) | .inr r => (∀ (o7 : Option (Sum Int Nat)), EvF mtab d k_X4_needsJump 54 [some (.inr (.inr 162)), some (.inl p1), dv o7] [] (SH L0, D) (some (.inl t0), (SH L0, D)))) hr hX ?_
    clear hr hX
    intro s t hb hK0
    obtain ⟨l2_2, hre⟩ : ∃ q, q = s := ⟨s, rfl⟩
    subst hre
    show EvF mtab d k_X4_needsJump 16 [some (.inr (.inr 162)), some (.inl p1), some (.inl l2_2)] [] (SH L0, D) (some (.inl t0), (SH L0, D))
    unfold b_X4_needsJump_16 at hb
    obtain ⟨x3, hx, hb⟩ := bnd hb
    refine ev_call (e_X7_arcsOf L0 d (by omega) hx) 5 (pc' := 25) (L' := [some (.inr (.inr 162)), some (.inl p1), some (.inl l2_2)]) (S' := [.inl l2_2]) (fun _ _ => rfl) ?_
    rcases ite_or hb with ⟨hc, hb⟩ | ⟨hc, hb⟩
    · refine ev_ift hc 1 (pc' := 28) (L' := [some (.inr (.inr 162)), some (.inl p1), some (.inl l2_2)]) (S' := []) (σ' := (SH L0, D)) (fun _ _ => rfl) ?_
      obtain ⟨x4, hx, hb⟩ := bnd hb
      refine ev_bind hx 6 (pc' := 38) (L' := fun x4 => [some (.inr (.inr 162)), some (.inl p1), some (.inl l2_2)]) (S' := fun x4 => [.inl x4, .inr (.inr 162)]) (σ' := fun x4 => (SH L0, D)) (fun _ _ => rfl) ?_
      obtain ⟨x5, hx, hb⟩ := bnd hb
      refine ev_call (e_X4_isFall_162 L0 d (by omega) hx) 3 (pc' := 43) (L' := [some (.inr (.inr 162)), some (.inl p1), some (.inl l2_2)]) (S' := []) (fun _ _ => rfl) ?_
      rcases ite_or hb with ⟨hc, hb⟩ | ⟨hc, hb⟩
      · refine ev_ift hc 1 (pc' := 48) (L' := [some (.inr (.inr 162)), some (.inl p1), some (.inl l2_2)]) (S' := []) (σ' := (SH L0, D)) (fun _ _ => rfl) ?_
        cases hb
        exact ev_go 2 (pc' := 16) (L' := [some (.inr (.inr 162)), some (.inl p1), some (.inl (w32 (l2_2 + 1)))]) (S' := []) (σ' := (SH L0, D)) (fun _ _ => rfl) hK0
      · refine ev_iff hc 1 (pc' := 46) (L' := [some (.inr (.inr 162)), some (.inl p1), some (.inl l2_2)]) (S' := []) (σ' := (SH L0, D)) (fun _ _ => rfl) ?_
        cases hb
        exact hK0 (some (.inl l2_2))
    · refine ev_iff hc 1 (pc' := 54) (L' := [some (.inr (.inr 162)), some (.inl p1), some (.inl l2_2)]) (S' := []) (σ' := (SH L0, D)) (fun _ _ => rfl) ?_
      cases hb
      exact hK0 (some (.inl l2_2))
set_option maxRecDepth 100000 in
set_option maxHeartbeats 4000000 in
theorem e_X4_needsJump_167 (L0 d : Nat) (hd : 3 ≤ d) {p1 : Int} {D : DT} {t0 : Int} (h : m_X4_needsJump 167 p1 D = some t0) : Ret mtab d 48 [.inr (.inr 167), .inl p1] (SH L0, D) (some (.inl t0), (SH L0, D)) := by
  obtain ⟨d, rfl⟩ : ∃ e, d = e + 1 := ⟨d - 1, by omega⟩
  refine Ret.of (code := k_X4_needsJump) (ml := 3) rfl ?_
  show EvF mtab d k_X4_needsJump 0 [some (.inr (.inr 167)), some (.inl p1), none] [] (SH L0, D) (some (.inl t0), (SH L0, D))
  unfold m_X4_needsJump at h
  obtain ⟨x1, hx, h⟩ := bnd h
  refine ev_bind hx 5 (pc' := 9) (L' := fun x1 => [some (.inr (.inr 167)), some (.inl p1), none]) (S' := fun x1 => [.inl x1]) (σ' := fun x1 => (SH L0, D)) (fun _ _ => rfl) ?_
  rcases ite_or h with ⟨hc, h⟩ | ⟨hc, h⟩
  · refine ev_ift hc 1 (pc' := 12) (L' := [some (.inr (.inr 167)), some (.inl p1), none]) (S' := []) (σ' := (SH L0, D)) (fun _ _ => rfl) ?_
    cases h
    exact ev_ret 2 (fun _ _ => rfl)
  · refine ev_iff hc 1 (pc' := 14) (L' := [some (.inr (.inr 167)), some (.inl p1), none]) (S' := []) (σ' := (SH L0, D)) (fun _ _ => rfl) ?_
    obtain ⟨r, hr, h⟩ := bnd h
    have hX : (fun (r : (Unit ⊕ Unit)) => match r with | .inl r => (∀ (o6 : Option (Sum Int Nat)), EvF mtab d k_X4_needsJump 46 [some (.inr (.inr 167)), some (.inl p1), dv o6] [] (SH L0, D) (some (.inl t0), (SH L0, D))) | .inr r => (∀ (o7 : Option (Sum Int Nat)), EvF mtab d k_X4_needsJump 54 [some (.inr (.inr 167)), some (.inl p1), dv o7] [] (SH L0, D) (some (.inl t0), (SH L0, D)))) r := by
      rcases r with r | r
      · skip
        intro o6
        show EvF mtab d k_X4_needsJump 46 [some (.inr (.inr 167)), some (.inl p1), dv o6] [] (SH L0, D) (some (.inl t0), (SH L0, D))
        cases h
        exact ev_ret 2 (fun _ _ => rfl)
      intro o7
      show EvF mtab d k_X4_needsJump 54 [some (.inr (.inr 167)), some (.inl p1), dv o7] [] (SH L0, D) (some (.inl t0), (SH L0, D))
      cases h
      exact ev_ret 2 (fun _ _ => rfl)
    clear h
    refine ev_go 2 (pc' := 16) (L' := [some (.inr (.inr 167)), some (.inl p1), some (.inl 0)]) (S' := []) (σ' := (SH L0, D)) (fun _ _ => rfl) ?_
    refine loop_ind (P := fun s => EvF mtab d k_X4_needsJump 16 [some (.inr (.inr 167)), some (.inl p1), some (.inl s)] [] (SH L0, D) (some (.inl t0), (SH L0, D))) (X := fun r => match r with | .inl r => (∀ (o6 : Option (Sum Int Nat)), EvF mtab d k_X4_needsJump 46 [some (.inr (.inr 167)), some (.inl p1), dv o6] [] (SH L0, D) (some (.inl t0), (SH L0, D))) | .inr r => (∀ (o7 : Option (Sum Int Nat)), EvF mtab d k_X4_needsJump 54 [some (.inr (.inr 167)), some (.inl p1), dv o7] [] (SH L0, D) (some (.inl t0), (SH L0, D)))) hr hX ?_
    clear hr hX
    intro s t hb hK0
    obtain ⟨l2_2, hre⟩ : ∃ q, q = s := ⟨s, rfl⟩
    subst hre
    show EvF mtab d k_X4_needsJump 16 [some (.inr (.inr 167)), some (.inl p1), some (.inl l2_2)] [] (SH L0, D) (some (.inl t0), (SH L0, D))
    unfold b_X4_needsJump_16 at hb
    obtain ⟨x3, hx, hb⟩ := bnd hb
    refine ev_call (e_X7_arcsOf L0 d (by omega) hx) 5 (pc' := 25) (L' := [some (.inr (.inr 167)), some (.inl p1), some (.inl l2_2)]) (S' := [.inl l2_2]) (fun _ _ => rfl) ?_
    rcases ite_or hb with ⟨hc, hb⟩ | ⟨hc, hb⟩
    · refine ev_ift hc 1 (pc' := 28) (L' := [some (.inr (.inr 167)), some (.inl p1), some (.inl l2_2)]) (S' := []) (σ' := (SH L0, D)) (fun _ _ => rfl) ?_
      obtain ⟨x4, hx, hb⟩ := bnd hb
      refine ev_bind hx 6 (pc' := 38) (L' := fun x4 => [some (.inr (.inr 167)), some (.inl p1), some (.inl l2_2)]) (S' := fun x4 => [.inl x4, .inr (.inr 167)]) (σ' := fun x4 => (SH L0, D)) (fun _ _ => rfl) ?_
      obtain ⟨x5, hx, hb⟩ := bnd hb
      refine ev_call (e_X4_isFall_167 L0 d (by omega) hx) 3 (pc' := 43) (L' := [some (.inr (.inr 167)), some (.inl p1), some (.inl l2_2)]) (S' := []) (fun _ _ => rfl) ?_
      rcases ite_or hb with ⟨hc, hb⟩ | ⟨hc, hb⟩
      · refine ev_ift hc 1 (pc' := 48) (L' := [some (.inr (.inr 167)), some (.inl p1), some (.inl l2_2)]) (S' := []) (σ' := (SH L0, D)) (fun _ _ => rfl) ?_
        cases hb
        exact ev_go 2 (pc' := 16) (L' := [some (.inr (.inr 167)), some (.inl p1), some (.inl (w32 (l2_2 + 1)))]) (S' := []) (σ' := (SH L0, D)) (fun _ _ => rfl) hK0
      · refine ev_iff hc 1 (pc' := 46) (L' := [some (.inr (.inr 167)), some (.inl p1), some (.inl l2_2)]) (S' := []) (σ' := (SH L0, D)) (fun _ _ => rfl) ?_
        cases hb
        exact hK0 (some (.inl l2_2))
    · refine ev_iff hc 1 (pc' := 54) (L' := [some (.inr (.inr 167)), some (.inl p1), some (.inl l2_2)]) (S' := []) (σ' := (SH L0, D)) (fun _ _ => rfl) ?_
      cases hb
      exact hK0 (some (.inl l2_2))
set_option maxRecDepth 100000 in
set_option maxHeartbeats 4000000 in
theorem e_X4_needsJump_172 (L0 d : Nat) (hd : 3 ≤ d) {p1 : Int} {D : DT} {t0 : Int} (h : m_X4_needsJump 172 p1 D = some t0) : Ret mtab d 48 [.inr (.inr 172), .inl p1] (SH L0, D) (some (.inl t0), (SH L0, D)) := by
  obtain ⟨d, rfl⟩ : ∃ e, d = e + 1 := ⟨d - 1, by omega⟩
  refine Ret.of (code := k_X4_needsJump) (ml := 3) rfl ?_
  show EvF mtab d k_X4_needsJump 0 [some (.inr (.inr 172)), some (.inl p1), none] [] (SH L0, D) (some (.inl t0), (SH L0, D))
  unfold m_X4_needsJump at h
  obtain ⟨x1, hx, h⟩ := bnd h
  refine ev_bind hx 5 (pc' := 9) (L' := fun x1 => [some (.inr (.inr 172)), some (.inl p1), none]) (S' := fun x1 => [.inl x1]) (σ' := fun x1 => (SH L0, D)) (fun _ _ => rfl) ?_
  rcases ite_or h with ⟨hc, h⟩ | ⟨hc, h⟩
  · refine ev_ift hc 1 (pc' := 12) (L' := [some (.inr (.inr 172)), some (.inl p1), none]) (S' := []) (σ' := (SH L0, D)) (fun _ _ => rfl) ?_
    cases h
    exact ev_ret 2 (fun _ _ => rfl)
  · refine ev_iff hc 1 (pc' := 14) (L' := [some (.inr (.inr 172)), some (.inl p1), none]) (S' := []) (σ' := (SH L0, D)) (fun _ _ => rfl) ?_
    obtain ⟨r, hr, h⟩ := bnd h
    have hX : (fun (r : (Unit ⊕ Unit)) => match r with | .inl r => (∀ (o6 : Option (Sum Int Nat)), EvF mtab d k_X4_needsJump 46 [some (.inr (.inr 172)), some (.inl p1), dv o6] [] (SH L0, D) (some (.inl t0), (SH L0, D))) | .inr r => (∀ (o7 : Option (Sum Int Nat)), EvF mtab d k_X4_needsJump 54 [some (.inr (.inr 172)), some (.inl p1), dv o7] [] (SH L0, D) (some (.inl t0), (SH L0, D)))) r := by
      rcases r with r | r
      · skip
        intro o6
        show EvF mtab d k_X4_needsJump 46 [some (.inr (.inr 172)), some (.inl p1), dv o6] [] (SH L0, D) (some (.inl t0), (SH L0, D))
        cases h
        exact ev_ret 2 (fun _ _ => rfl)
      intro o7
      show EvF mtab d k_X4_needsJump 54 [some (.inr (.inr 172)), some (.inl p1), dv o7] [] (SH L0, D) (some (.inl t0), (SH L0, D))
      cases h
      exact ev_ret 2 (fun _ _ => rfl)
    clear h
    refine ev_go 2 (pc' := 16) (L' := [some (.inr (.inr 172)), some (.inl p1), some (.inl 0)]) (S' := []) (σ' := (SH L0, D)) (fun _ _ => rfl) ?_
    refine loop_ind (P := fun s => EvF mtab d k_X4_needsJump 16 [some (.inr (.inr 172)), some (.inl p1), some (.inl s)] [] (SH L0, D) (some (.inl t0), (SH L0, D))) (X := fun r => match r with | .inl r => (∀ (o6 : Option (Sum Int Nat)), EvF mtab d k_X4_needsJump 46 [some (.inr (.inr 172)), some (.inl p1), dv o6] [] (SH L0, D) (some (.inl t0), (SH L0, D))) | .inr r => (∀ (o7 : Option (Sum Int Nat)), EvF mtab d k_X4_needsJump 54 [some (.inr (.inr 172)), some (.inl p1), dv o7] [] (SH L0, D) (some (.inl t0), (SH L0, D)))) hr hX ?_
    clear hr hX
    intro s t hb hK0
    obtain ⟨l2_2, hre⟩ : ∃ q, q = s := ⟨s, rfl⟩
    subst hre
    show EvF mtab d k_X4_needsJump 16 [some (.inr (.inr 172)), some (.inl p1), some (.inl l2_2)] [] (SH L0, D) (some (.inl t0), (SH L0, D))
    unfold b_X4_needsJump_16 at hb
    obtain ⟨x3, hx, hb⟩ := bnd hb
    refine ev_call (e_X7_arcsOf L0 d (by omega) hx) 5 (pc' := 25) (L' := [some (.inr (.inr 172)), some (.inl p1), some (.inl l2_2)]) (S' := [.inl l2_2]) (fun _ _ => rfl) ?_
    rcases ite_or hb with ⟨hc, hb⟩ | ⟨hc, hb⟩
    · refine ev_ift hc 1 (pc' := 28) (L' := [some (.inr (.inr 172)), some (.inl p1), some (.inl l2_2)]) (S' := []) (σ' := (SH L0, D)) (fun _ _ => rfl) ?_
      obtain ⟨x4, hx, hb⟩ := bnd hb
      refine ev_bind hx 6 (pc' := 38) (L' := fun x4 => [some (.inr (.inr 172)), some (.inl p1), some (.inl l2_2)]) (S' := fun x4 => [.inl x4, .inr (.inr 172)]) (σ' := fun x4 => (SH L0, D)) (fun _ _ => rfl) ?_
      obtain ⟨x5, hx, hb⟩ := bnd hb
      refine ev_call (e_X4_isFall_172 L0 d (by omega) hx) 3 (pc' := 43) (L' := [some (.inr (.inr 172)), some (.inl p1), some (.inl l2_2)]) (S' := []) (fun _ _ => rfl) ?_
      rcases ite_or hb with ⟨hc, hb⟩ | ⟨hc, hb⟩
      · refine ev_ift hc 1 (pc' := 48) (L' := [some (.inr (.inr 172)), some (.inl p1), some (.inl l2_2)]) (S' := []) (σ' := (SH L0, D)) (fun _ _ => rfl) ?_
        cases hb
        exact ev_go 2 (pc' := 16) (L' := [some (.inr (.inr 172)), some (.inl p1), some (.inl (w32 (l2_2 + 1)))]) (S' := []) (σ' := (SH L0, D)) (fun _ _ => rfl) hK0
      · refine ev_iff hc 1 (pc' := 46) (L' := [some (.inr (.inr 172)), some (.inl p1), some (.inl l2_2)]) (S' := []) (σ' := (SH L0, D)) (fun _ _ => rfl) ?_
        cases hb
        exact hK0 (some (.inl l2_2))
    · refine ev_iff hc 1 (pc' := 54) (L' := [some (.inr (.inr 172)), some (.inl p1), some (.inl l2_2)]) (S' := []) (σ' := (SH L0, D)) (fun _ _ => rfl) ?_
      cases hb
      exact hK0 (some (.inl l2_2))
set_option maxRecDepth 100000 in
set_option maxHeartbeats 4000000 in
theorem e_X4_needsJump_177 (L0 d : Nat) (hd : 3 ≤ d) {p1 : Int} {D : DT} {t0 : Int} (h : m_X4_needsJump 177 p1 D = some t0) : Ret mtab d 48 [.inr (.inr 177), .inl p1] (SH L0, D) (some (.inl t0), (SH L0, D)) := by
  obtain ⟨d, rfl⟩ : ∃ e, d = e + 1 := ⟨d - 1, by omega⟩
  refine Ret.of (code := k_X4_needsJump) (ml := 3) rfl ?_
  show EvF mtab d k_X4_needsJump 0 [some (.inr (.inr 177)), some (.inl p1), none] [] (SH L0, D) (some (.inl t0), (SH L0, D))
  unfold m_X4_needsJump at h
  obtain ⟨x1, hx, h⟩ := bnd h
  refine ev_bind hx 5 (pc' := 9) (L' := fun x1 => [some (.inr (.inr 177)), some (.inl p1), none]) (S' := fun x1 => [.inl x1]) (σ' := fun x1 => (SH L0, D)) (fun _ _ => rfl) ?_
  rcases ite_or h with ⟨hc, h⟩ | ⟨hc, h⟩
  · refine ev_ift hc 1 (pc' := 12) (L' := [some (.inr (.inr 177)), some (.inl p1), none]) (S' := []) (σ' := (SH L0, D)) (fun _ _ => rfl) ?_
    cases h
    exact ev_ret 2 (fun _ _ => rfl)
  · refine ev_iff hc 1 (pc' := 14) (L' := [some (.inr (.inr 177)), some (.inl p1), none]) (S' := []) (σ' := (SH L0, D)) (fun _ _ => rfl) ?_
    obtain ⟨r, hr, h⟩ := bnd h
    have hX : (fun (r : (Unit ⊕ Unit)) => match r with | .inl r => (∀ (o6 : Option (Sum Int Nat)), EvF mtab d k_X4_needsJump 46 [some (.inr (.inr 177)), some (.inl p1), dv o6] [] (SH L0, D) (some (.inl t0), (SH L0, D))) | .inr r => (∀ (o7 : Option (Sum Int Nat)), EvF mtab d k_X4_needsJump 54 [some (.inr (.inr 177)), some (.inl p1), dv o7] [] (SH L0, D) (some (.inl t0), (SH L0, D)))) r := by
      rcases r with r | r
      · skip
        intro o6
        show EvF mtab d k_X4_needsJump 46 [some (.inr (.inr 177)), some (.inl p1), dv o6] [] (SH L0, D) (some (.inl t0), (SH L0, D))
        cases h
        exact ev_ret 2 (fun _ _ => rfl)
      intro o7
      show EvF mtab d k_X4_needsJump 54 [some (.inr (.inr 177)), some (.inl p1), dv o7] [] (SH L0, D) (some (.inl t0), (SH L0, D))
      cases h
      exact ev_ret 2 (fun _ _ => rfl)
    clear h
    refine ev_go 2 (pc' := 16) (L' := [some (.inr (.inr 177)), some (.inl p1), some (.inl 0)]) (S' := []) (σ' := (SH L0, D)) (fun _ _ => rfl) ?_
    refine loop_ind (P := fun s => EvF mtab d k_X4_needsJump 16 [some (.inr (.inr 177)), some (.inl p1), some (.inl s)] [] (SH L0, D) (some (.inl t0), (SH L0, D))) (X := fun r => match r with | .inl r => (∀ (o6 : Option (Sum Int Nat)), EvF mtab d k_X4_needsJump 46 [some (.inr (.inr 177)), some (.inl p1), dv o6] [] (SH L0, D) (some (.inl t0), (SH L0, D))) | .inr r => (∀ (o7 : Option (Sum Int Nat)), EvF mtab d k_X4_needsJump 54 [some (.inr (.inr 177)), some (.inl p1), dv o7] [] (SH L0, D) (some (.inl t0), (SH L0, D)))) hr hX ?_
    clear hr hX
    intro s t hb hK0
    obtain ⟨l2_2, hre⟩ : ∃ q, q = s := ⟨s, rfl⟩
    subst hre
    show EvF mtab d k_X4_needsJump 16 [some (.inr (.inr 177)), some (.inl p1), some (.inl l2_2)] [] (SH L0, D) (some (.inl t0), (SH L0, D))
    unfold b_X4_needsJump_16 at hb
    obtain ⟨x3, hx, hb⟩ := bnd hb
    refine ev_call (e_X7_arcsOf L0 d (by omega) hx) 5 (pc' := 25) (L' := [some (.inr (.inr 177)), some (.inl p1), some (.inl l2_2)]) (S' := [.inl l2_2]) (fun _ _ => rfl) ?_
    rcases ite_or hb with ⟨hc, hb⟩ | ⟨hc, hb⟩
    · refine ev_ift hc 1 (pc' := 28) (L' := [some (.inr (.inr 177)), some (.inl p1), some (.inl l2_2)]) (S' := []) (σ' := (SH L0, D)) (fun _ _ => rfl) ?_
      obtain ⟨x4, hx, hb⟩ := bnd hb
      refine ev_bind hx 6 (pc' := 38) (L' := fun x4 => [some (.inr (.inr 177)), some (.inl p1), some (.inl l2_2)]) (S' := fun x4 => [.inl x4, .inr (.inr 177)]) (σ' := fun x4 => (SH L0, D)) (fun _ _ => rfl) ?_
      obtain ⟨x5, hx, hb⟩ := bnd hb
      refine ev_call (e_X4_isFall_177 L0 d (by omega) hx) 3 (pc' := 43) (L' := [some (.inr (.inr 177)), some (.inl p1), some (.inl l2_2)]) (S' := []) (fun _ _ => rfl) ?_
      rcases ite_or hb with ⟨hc, hb⟩ | ⟨hc, hb⟩
      · refine ev_ift hc 1 (pc' := 48) (L' := [some (.inr (.inr 177)), some (.inl p1), some (.inl l2_2)]) (S' := []) (σ' := (SH L0, D)) (fun _ _ => rfl) ?_
        cases hb
        exact ev_go 2 (pc' := 16) (L' := [some (.inr (.inr 177)), some (.inl p1), some (.inl (w32 (l2_2 + 1)))]) (S' := []) (σ' := (SH L0, D)) (fun _ _ => rfl) hK0
      · refine ev_iff hc 1 (pc' := 46) (L' := [some (.inr (.inr 177)), some (.inl p1), some (.inl l2_2)]) (S' := []) (σ' := (SH L0, D)) (fun _ _ => rfl) ?_
        cases hb
        exact hK0 (some (.inl l2_2))
    · refine ev_iff hc 1 (pc' := 54) (L' := [some (.inr (.inr 177)), some (.inl p1), some (.inl l2_2)]) (S' := []) (σ' := (SH L0, D)) (fun _ _ => rfl) ?_
      cases hb
      exact hK0 (some (.inl l2_2))
set_option maxRecDepth 100000 in
set_option maxHeartbeats 4000000 in
theorem e_X4_needsJump_182 (L0 d : Nat) (hd : 3 ≤ d) {p1 : Int} {D : DT} {t0 : Int} (h : m_X4_needsJump 182 p1 D = some t0) : Ret mtab d 48 [.inr (.inr 182), .inl p1] (SH L0, D) (some (.inl t0), (SH L0, D)) := by
  obtain ⟨d, rfl⟩ : ∃ e, d = e + 1 := ⟨d - 1, by omega⟩
  refine Ret.of (code := k_X4_needsJump) (ml := 3) rfl ?_
  show EvF mtab d k_X4_needsJump 0 [some (.inr (.inr 182)), some (.inl p1), none] [] (SH L0, D) (some (.inl t0), (SH L0, D))
  unfold m_X4_needsJump at h
  obtain ⟨x1, hx, h⟩ := bnd h
  refine ev_bind hx 5 (pc' := 9) (L' := fun x1 => [some (.inr (.inr 182)), some (.inl p1), none]) (S' := fun x1 => [.inl x1]) (σ' := fun x1 => (SH L0, D)) (fun _ _ => rfl) ?_
  rcases ite_or h with ⟨hc, h⟩ | ⟨hc, h⟩
  · refine ev_ift hc 1 (pc' := 12) (L' := [some (.inr (.inr 182)), some (.inl p1), none]) (S' := []) (σ' := (SH L0, D)) (fun _ _ => rfl) ?_
    cases h
    exact ev_ret 2 (fun _ _ => rfl)
  · refine ev_iff hc 1 (pc' := 14) (L' := [some (.inr (.inr 182)), some (.inl p1), none]) (S' := []) (σ' := (SH L0, D)) (fun _ _ => rfl) ?_
    obtain ⟨r, hr, h⟩ := bnd h
    have hX : (fun (r : (Unit ⊕ Unit)) => match r with | .inl r => (∀ (o6 : Option (Sum Int Nat)), EvF mtab d k_X4_needsJump 46 [some (.inr (.inr 182)), some (.inl p1), dv o6] [] (SH L0, D) (some (.inl t0), (SH L0, D))) | .inr r => (∀ (o7 : Option (Sum Int Nat)), EvF mtab d k_X4_needsJump 54 [some (.inr (.inr 182)), some (.inl p1), dv o7] [] (SH L0, D) (some (.inl t0), (SH L0, D)))) r := by
      rcases r with r | r
      · skip
        intro o6
        show EvF mtab d k_X4_needsJump 46 [some (.inr (.inr 182)), some (.inl p1), dv o6] [] (SH L0, D) (some (.inl t0), (SH L0, D))
        cases h
        exact ev_ret 2 (fun _ _ => rfl)
      intro o7
      show EvF mtab d k_X4_needsJump 54 [some (.inr (.inr 182)), some (.inl p1), dv o7] [] (SH L0, D) (some (.inl t0), (SH L0, D))
      cases h
      exact ev_ret 2 (fun _ _ => rfl)
    clear h
    refine ev_go 2 (pc' := 16) (L' := [some (.inr (.inr 182)), some (.inl p1), some (.inl 0)]) (S' := []) (σ' := (SH L0, D)) (fun _ _ => rfl) ?_
    refine loop_ind (P := fun s => EvF mtab d k_X4_needsJump 16 [some (.inr (.inr 182)), some (.inl p1), some (.inl s)] [] (SH L0, D) (some (.inl t0), (SH L0, D))) (X := fun r => match r with | .inl r => (∀ (o6 : Option (Sum Int Nat)), EvF mtab d k_X4_needsJump 46 [some (.inr (.inr 182)), some (.inl p1), dv o6] [] (SH L0, D) (some (.inl t0), (SH L0, D))) | .inr r => (∀ (o7 : Option (Sum Int Nat)), EvF mtab d k_X4_needsJump 54 [some (.inr (.inr 182)), some (.inl p1), dv o7] [] (SH L0, D) (some (.inl t0), (SH L0, D)))) hr hX ?_
    clear hr hX
    intro s t hb hK0
    obtain ⟨l2_2, hre⟩ : ∃ q, q = s := ⟨s, rfl⟩
    subst hre
    show EvF mtab d k_X4_needsJump 16 [some (.inr (.inr 182)), some (.inl p1), some (.inl l2_2)] [] (SH L0, D) (some (.inl t0), (SH L0, D))
    unfold b_X4_needsJump_16 at hb
    obtain ⟨x3, hx, hb⟩ := bnd hb
    refine ev_call (e_X7_arcsOf L0 d (by omega) hx) 5 (pc' := 25) (L' := [some (.inr (.inr 182)), some (.inl p1), some (.inl l2_2)]) (S' := [.inl l2_2]) (fun _ _ => rfl) ?_
    rcases ite_or hb with ⟨hc, hb⟩ | ⟨hc, hb⟩
    · refine ev_ift hc 1 (pc' := 28) (L' := [some (.inr (.inr 182)), some (.inl p1), some (.inl l2_2)]) (S' := []) (σ' := (SH L0, D)) (fun _ _ => rfl) ?_
      obtain ⟨x4, hx, hb⟩ := bnd hb
      refine ev_bind hx 6 (pc' := 38) (L' := fun x4 => [some (.inr (.inr 182)), some (.inl p1), some (.inl l2_2)]) (S' := fun x4 => [.inl x4, .inr (.inr 182)]) (σ' := fun x4 => (SH L0, D)) (fun _ _ => rfl) ?_
      obtain ⟨x5, hx, hb⟩ := bnd hb
      refine ev_call (e_X4_isFall_182 L0 d (by omega) hx) 3 (pc' := 43) (L' := [some (.inr (.inr 182)), some (.inl p1), some (.inl l2_2)]) (S' := []) (fun _ _ => rfl) ?_
      rcases ite_or hb with ⟨hc, hb⟩ | ⟨hc, hb⟩
      · refine ev_ift hc 1 (pc' := 48) (L' := [some (.inr (.inr 182)), some (.inl p1), some (.inl l2_2)]) (S' := []) (σ' := (SH L0, D)) (fun _ _ => rfl) ?_
        cases hb
        exact ev_go 2 (pc' := 16) (L' := [some (.inr (.inr 182)), some (.inl p1), some (.inl (w32 (l2_2 + 1)))]) (S' := []) (σ' := (SH L0, D)) (fun _ _ => rfl) hK0
      · refine ev_iff hc 1 (pc' := 46) (L' := [some (.inr (.inr 182)), some (.inl p1), some (.inl l2_2)]) (S' := []) (σ' := (SH L0, D)) (fun _ _ => rfl) ?_
        cases hb
        exact hK0 (some (.inl l2_2))
    · refine ev_iff hc 1 (pc' := 54) (L' := [some (.inr (.inr 182)), some (.inl p1), some (.inl l2_2)]) (S' := []) (σ' := (SH L0, D)) (fun _ _ => rfl) ?_
      cases hb
      exact hK0 (some (.inl l2_2))
set_option maxRecDepth 100000 in
set_option maxHeartbeats 4000000 in
theorem e_X4_measure_162 (L0 d : Nat) (hd : 4 ≤ d) {D : DT} {t0 : DT} (h : m_X4_measure 162 D = some t0) : Ret mtab d 47 [.inr (.inr 162)] (SH L0, D) (none, (SH L0, t0)) := by
  obtain ⟨d, rfl⟩ : ∃ e, d = e + 1 := ⟨d - 1, by omega⟩
  refine Ret.of (code := k_X4_measure) (ml := 3) rfl ?_
  show EvF mtab d k_X4_measure 0 [some (.inr (.inr 162)), none, none] [] (SH L0, D) (none, (SH L0, t0))
  unfold m_X4_measure at h
  obtain ⟨r, hr, h⟩ := bnd h
  have hX : (fun (r : DT) => ∀ (o5 : Option (Sum Int Nat)), EvF mtab d k_X4_measure 31 [some (.inr (.inr 162)), dv o5, none] [] (SH L0, r) (none, (SH L0, t0))) r := by
    obtain ⟨D6, hre⟩ : ∃ q, q = r := ⟨r, rfl⟩
    subst hre
    intro o5
    show EvF mtab d k_X4_measure 31 [some (.inr (.inr 162)), dv o5, none] [] (SH L0, D6) (none, (SH L0, t0))
    obtain ⟨r, hr, h⟩ := bnd h
    have hX : (fun (r : DT) => ∀ (o17 : Option (Sum Int Nat)) (o18 : Option (Sum Int Nat)), EvF mtab d k_X4_measure 116 [some (.inr (.inr 162)), dv o17, dv o18] [] (SH L0, r) (none, (SH L0, t0))) r := by
      obtain ⟨D19, hre⟩ : ∃ q, q = r := ⟨r, rfl⟩
      subst hre
      intro o17 o18
      show EvF mtab d k_X4_measure 116 [some (.inr (.inr 162)), dv o17, dv o18] [] (SH L0, D19) (none, (SH L0, t0))
      cases h
      exact ev_ret 1 (fun _ _ => rfl)
    clear h
    refine ev_go 5 (pc' := 38) (L' := [some (.inr (.inr 162)), some (.inl 0), none]) (S' := []) (σ' := (SH L0, dput D6 162 4 0)) (fun _ _ => rfl) ?_
    refine loop_ind (P := fun s => ∀ (o8 : Option (Sum Int Nat)), EvF mtab d k_X4_measure 38 [some (.inr (.inr 162)), some (.inl s.1), dv o8] [] (SH L0, s.2) (none, (SH L0, t0))) (X := fun r => ∀ (o17 : Option (Sum Int Nat)) (o18 : Option (Sum Int Nat)), EvF mtab d k_X4_measure 116 [some (.inr (.inr 162)), dv o17, dv o18] [] (SH L0, r) (none, (SH L0, t0))) hr hX ?_ none
    clear hr hX
    intro s t hb hK0
    obtain ⟨l1_7, D9⟩ := s
    intro o8
    show EvF mtab d k_X4_measure 38 [some (.inr (.inr 162)), some (.inl l1_7), dv o8] [] (SH L0, D9) (none, (SH L0, t0))
    unfold b_X4_measure_38 at hb
    rcases ite_or hb with ⟨hc, hb⟩ | ⟨hc, hb⟩
    · refine ev_ift hc 5 (pc' := 49) (L' := [some (.inr (.inr 162)), some (.inl l1_7), dv o8]) (S' := []) (σ' := (SH L0, D9)) (fun _ _ => rfl) ?_
      obtain ⟨x10, hx, hb⟩ := bnd hb
      refine ev_bind hx 4 (pc' := 55) (L' := fun x10 => [some (.inr (.inr 162)), some (.inl l1_7), dv o8]) (S' := fun x10 => [.inl x10]) (σ' := fun x10 => (SH L0, D9)) (fun _ _ => rfl) ?_
      obtain ⟨D11, hx, hb⟩ := bnd hb
      refine ev_bind hx 7 (pc' := 66) (L' := fun D11 => [some (.inr (.inr 162)), some (.inl l1_7), some (.inl x10)]) (S' := fun D11 => []) (σ' := fun D11 => (SH L0, D11)) (fun _ _ => rfl) ?_
      obtain ⟨x12, hx, hb⟩ := bnd hb
      refine ev_bind hx 8 (pc' := 80) (L' := fun x12 => [some (.inr (.inr 162)), some (.inl l1_7), some (.inl x10)]) (S' := fun x12 => [.inl x12, .inl x10, .inr (.inr 165)]) (σ' := fun x12 => (SH L0, D11)) (fun _ _ => rfl) ?_
      obtain ⟨x13, hx, hb⟩ := bnd hb
      refine ev_call (e_X4_needsJump_162 L0 d (by omega) hx) 3 (pc' := 85) (L' := [some (.inr (.inr 162)), some (.inl l1_7), some (.inl x10)]) (S' := [.inl x12, .inl x10, .inr (.inr 165)]) (fun _ _ => rfl) ?_
      obtain ⟨t14, hv, hb⟩ := bnd hb
      have hJ : EvF mtab d k_X4_measure 93 [some (.inr (.inr 162)), some (.inl l1_7), some (.inl x10)] [.inl t14, .inl x12, .inl x10, .inr (.inr 165)] (SH L0, D11) (none, (SH L0, t0)) := by
        obtain ⟨D15, hx, hb⟩ := bnd hb
        refine ev_bind hx 2 (pc' := 95) (L' := fun D15 => [some (.inr (.inr 162)), some (.inl l1_7), some (.inl x10)]) (S' := fun D15 => []) (σ' := fun D15 => (SH L0, D15)) (fun _ _ => rfl) ?_
        obtain ⟨x16, hx, hb⟩ := bnd hb
        refine ev_bind hx 7 (pc' := 106) (L' := fun x16 => [some (.inr (.inr 162)), some (.inl l1_7), some (.inl x10)]) (S' := fun x16 => [.inl x16, .inl (D15 162 4), .inr (.inr 162)]) (σ' := fun x16 => (SH L0, D15)) (fun _ _ => rfl) ?_
        cases hb
        exact ev_go 4 (pc' := 38) (L' := [some (.inr (.inr 162)), some (.inl (w32 (l1_7 + 1))), some (.inl x10)]) (S' := []) (σ' := (SH L0, dput D15 162 4 (w32 ((D15 162 4) + x16)))) (fun _ _ => rfl) (hK0 (some (.inl x10)))
      clear hb
      rcases ite_or hv with ⟨hc, hv⟩ | ⟨hc, hv⟩
      · refine ev_ift hc 1 (pc' := 92) (L' := [some (.inr (.inr 162)), some (.inl l1_7), some (.inl x10)]) (S' := [.inl x12, .inl x10, .inr (.inr 165)]) (σ' := (SH L0, D11)) (fun _ _ => rfl) ?_
        have he0 := Option.some.inj hv
        subst he0
        exact ev_go 1 (pc' := 93) (L' := [some (.inr (.inr 162)), some (.inl l1_7), some (.inl x10)]) (S' := [.inl 0, .inl x12, .inl x10, .inr (.inr 165)]) (σ' := (SH L0, D11)) (fun _ _ => rfl) hJ
      · refine ev_iff hc 1 (pc' := 88) (L' := [some (.inr (.inr 162)), some (.inl l1_7), some (.inl x10)]) (S' := [.inl x12, .inl x10, .inr (.inr 165)]) (σ' := (SH L0, D11)) (fun _ _ => rfl) ?_
        have he0 := Option.some.inj hv
        subst he0
        exact ev_go 2 (pc' := 93) (L' := [some (.inr (.inr 162)), some (.inl l1_7), some (.inl x10)]) (S' := [.inl 2, .inl x12, .inl x10, .inr (.inr 165)]) (σ' := (SH L0, D11)) (fun _ _ => rfl) hJ
    · refine ev_iff hc 5 (pc' := 116) (L' := [some (.inr (.inr 162)), some (.inl l1_7), dv o8]) (S' := []) (σ' := (SH L0, D9)) (fun _ _ => rfl) ?_
      cases hb
      exact hK0 (some (.inl l1_7)) o8
  clear h
  refine ev_go 2 (pc' := 2) (L' := [some (.inr (.inr 162)), some (.inl 0), none]) (S' := []) (σ' := (SH L0, D)) (fun _ _ => rfl) ?_
  refine loop_ind (P := fun s => EvF mtab d k_X4_measure 2 [some (.inr (.inr 162)), some (.inl s.1), none] [] (SH L0, s.2) (none, (SH L0, t0))) (X := fun r => ∀ (o5 : Option (Sum Int Nat)), EvF mtab d k_X4_measure 31 [some (.inr (.inr 162)), dv o5, none] [] (SH L0, r) (none, (SH L0, t0))) hr hX ?_
  clear hr hX
  intro s t hb hK0
  obtain ⟨l1_1, D2⟩ := s
  show EvF mtab d k_X4_measure 2 [some (.inr (.inr 162)), some (.inl l1_1), none] [] (SH L0, D2) (none, (SH L0, t0))
  unfold b_X4_measure_2 at hb
  rcases ite_or hb with ⟨hc, hb⟩ | ⟨hc, hb⟩
  · refine ev_ift hc 5 (pc' := 13) (L' := [some (.inr (.inr 162)), some (.inl l1_1), none]) (S' := []) (σ' := (SH L0, D2)) (fun _ _ => rfl) ?_
    obtain ⟨x3, hx, hb⟩ := bnd hb
    refine ev_bind hx 6 (pc' := 23) (L' := fun x3 => [some (.inr (.inr 162)), some (.inl l1_1), none]) (S' := fun x3 => [.inl x3, .inr (.inr 164)]) (σ' := fun x3 => (SH L0, D2)) (fun _ _ => rfl) ?_
    obtain ⟨D4, hx, hb⟩ := bnd hb
    refine ev_bind hx 2 (pc' := 25) (L' := fun D4 => [some (.inr (.inr 162)), some (.inl l1_1), none]) (S' := fun D4 => []) (σ' := fun D4 => (SH L0, D4)) (fun _ _ => rfl) ?_
    cases hb
    exact ev_go 2 (pc' := 2) (L' := [some (.inr (.inr 162)), some (.inl (w32 (l1_1 + 1))), none]) (S' := []) (σ' := (SH L0, D4)) (fun _ _ => rfl) hK0
  · refine ev_iff hc 5 (pc' := 31) (L' := [some (.inr (.inr 162)), some (.inl l1_1), none]) (S' := []) (σ' := (SH L0, D2)) (fun _ _ => rfl) ?_
    cases hb
    exact hK0 (some (.inl l1_1))
set_option maxRecDepth 100000 in
set_option maxHeartbeats 4000000 in
theorem e_X4_measure_167 (L0 d : Nat) (hd : 4 ≤ d) {D : DT} {t0 : DT} (h : m_X4_measure 167 D = some t0) : Ret mtab d 47 [.inr (.inr 167)] (SH L0, D) (none, (SH L0, t0)) := by
  obtain ⟨d, rfl⟩ : ∃ e, d = e + 1 := ⟨d - 1, by omega⟩
  refine Ret.of (code := k_X4_measure) (ml := 3) rfl ?_
  show EvF mtab d k_X4_measure 0 [some (.inr (.inr 167)), none, none] [] (SH L0, D) (none, (SH L0, t0))
  unfold m_X4_measure at h
  obtain ⟨r, hr, h⟩ := bnd h
  have hX : (fun (r : DT) => ∀ (o5 : Option (Sum Int Nat)), EvF mtab d k_X4_measure 31 [some (.inr (.inr 167)), dv o5, none] [] (SH L0, r) (none, (SH L0, t0))) r := by
    obtain ⟨D6, hre⟩ : ∃ q, q = r := ⟨r, rfl⟩
    subst hre
    intro o5
    show EvF mtab d k_X4_measure 31 [some (.inr (.inr 167)), dv o5, none] [] (SH L0, D6) (none, (SH L0, t0))
    obtain ⟨r, hr, h⟩ := bnd h
    have hX : (fun (r : DT) => ∀ (o17 : Option (Sum Int Nat)) (o18 : Option (Sum Int Nat)), EvF mtab d k_X4_measure 116 [some (.inr (.inr 167)), dv o17, dv o18] [] (SH L0, r) (none, (SH L0, t0))) r := by
      obtain ⟨D19, hre⟩ : ∃ q, q = r := ⟨r, rfl⟩
      subst hre
      intro o17 o18
      show EvF mtab d k_X4_measure 116 [some (.inr (.inr 167)), dv o17, dv o18] [] (SH L0, D19) (none, (SH L0, t0))
      cases h
      exact ev_ret 1 (fun _ _ => rfl)
    clear h
    refine ev_go 5 (pc' := 38) (L' := [some (.inr (.inr 167)), some (.inl 0), none]) (S' := []) (σ' := (SH L0, dput D6 167 4 0)) (fun _ _ => rfl) ?_
    refine loop_ind (P := fun s => ∀ (o8 : Option (Sum Int Nat)), EvF mtab d k_X4_measure 38 [some (.inr (.inr 167)), some (.inl s.1), dv o8] [] (SH L0, s.2) (none, (SH L0, t0))) (X := fun r => ∀ (o17 : Option (Sum Int Nat)) (o18 : Option (Sum Int Nat)), EvF mtab d k_X4_measure 116 [some (.inr (.inr 167)), dv o17, dv o18] [] (SH L0, r) (none, (SH L0, t0))) hr hX ?_ none
    clear hr hX
    intro s t hb hK0
    obtain ⟨l1_7, D9⟩ := s
    intro o8
    show EvF mtab d k_X4_measure 38 [some (.inr (.inr 167)), some (.inl l1_7), dv o8] [] (SH L0, D9) (none, (SH L0, t0))
    unfold b_X4_measure_38 at hb
    rcases ite_or hb with ⟨hc, hb⟩ | ⟨hc, hb⟩
    · refine ev_ift hc 5 (pc' := 49) (L' := [some (.inr (.inr 167)), some (.inl l1_7), dv o8]) (S' := []) (σ' := (SH L0, D9)) (fun _ _ => rfl) ?_
      obtain ⟨x10, hx, hb⟩ := bnd hb
      refine ev_bind hx 4 (pc' := 55) (L' := fun x10 => [some (.inr (.inr 167)), some (.inl l1_7), dv o8]) (S' := fun x10 => [.inl x10]) (σ' := fun x10 => (SH L0, D9)) (fun _ _ => rfl) ?_
      obtain ⟨D11, hx, hb⟩ := bnd hb
      refine ev_bind hx 7 (pc' := 66) (L' := fun D11 => [some (.inr (.inr 167)), some (.inl l1_7), some (.inl x10)]) (S' := fun D11 => []) (σ' := fun D11 => (SH L0, D11)) (fun _ _ => rfl) ?_
      obtain ⟨x12, hx, hb⟩ := bnd hb
      refine ev_bind hx 8 (pc' := 80) (L' := fun x12 => [some (.inr (.inr 167)), some (.inl l1_7), some (.inl x10)]) (S' := fun x12 => [.inl x12, .inl x10, .inr (.inr 170)]) (σ' := fun x12 => (SH L0, D11)) (fun _ _ => rfl) ?_
      obtain ⟨x13, hx, hb⟩ := bnd hb
      refine ev_call (e_X4_needsJump_167 L0 d (by omega) hx) 3 (pc' := 85) (L' := [some (.inr (.inr 167)), some (.inl l1_7), some (.inl x10)]) (S' := [.inl x12, .inl x10, .inr (.inr 170)]) (fun _ _ => rfl) ?_
      obtain ⟨t14, hv, hb⟩ := bnd hb
      have hJ : EvF mtab d k_X4_measure 93 [some (.inr (.inr 167)), some (.inl l1_7), some (.inl x10)] [.inl t14, .inl x12, .inl x10, .inr (.inr 170)] (SH L0, D11) (none, (SH L0, t0)) := by
        obtain ⟨D15, hx, hb⟩ := bnd hb
        refine ev_bind hx 2 (pc' := 95) (L' := fun D15 => [some (.inr (.inr 167)), some (.inl l1_7), some (.inl x10)]) (S' := fun D15 => []) (σ' := fun D15 => (SH L0, D15)) (fun _ _ => rfl) ?_
        obtain ⟨x16, hx, hb⟩ := bnd hb
        refine ev_bind hx 7 (pc' := 106) (L' := fun x16 => [some (.inr (.inr 167)), some (.inl l1_7), some (.inl x10)]) (S' := fun x16 => [.inl x16, .inl (D15 167 4), .inr (.inr 167)]) (σ' := fun x16 => (SH L0, D15)) (fun _ _ => rfl) ?_
        cases hb
        exact ev_go 4 (pc' := 38) (L' := [some (.inr (.inr 167)), some (.inl (w32 (l1_7 + 1))), some (.inl x10)]) (S' := []) (σ' := (SH L0, dput D15 167 4 (w32 ((D15 167 4) + x16)))) (fun _ _ => rfl) (hK0 (some (.inl x10)))
      clear hb
      rcases ite_or hv with ⟨hc, hv⟩ | ⟨hc, hv⟩
      · refine ev_ift hc 1 (pc' := 92) (L' := [some (.inr (.inr 167)), some (.inl l1_7), some (.inl x10)]) (S' := [.inl x12, .inl x10, .inr (.inr 170)]) (σ' := (SH L0, D11)) (fun _ _ => rfl) ?_
        have he0 := Option.some.inj hv
        subst he0
        exact ev_go 1 (pc' := 93) (L' := [some (.inr (.inr 167)), some (.inl l1_7), some (.inl x10)]) (S' := [.inl 0, .inl x12, .inl x10, .inr (.inr 170)]) (σ' := (SH L0, D11)) (fun _ _ => rfl) hJ
      · refine ev_iff hc 1 (pc' := 88) (L' := [some (.inr (.inr 167)), some (.inl l1_7), some (.inl x10)]) (S' := [.inl x12, .inl x10, .inr (.inr 170)]) (σ' := (SH L0, D11)) (fun _ _ => rfl) ?_
        have he0 := Option.some.inj hv
        subst he0
        exact ev_go 2 (pc' := 93) (L' := [some (.inr (.inr 167)), some (.inl l1_7), some (.inl x10)]) (S' := [.inl 2, .inl x12, .inl x10, .inr (.inr 170)]) (σ' := (SH L0, D11)) (fun _ _ => rfl) hJ
    · refine ev_iff hc 5 (pc' := 116) (L' := [some (.inr (.inr 167)), some (.inl l1_7), dv o8]) (S' := []) (σ' := (SH L0, D9)) (fun _ _ => rfl) ?_
      cases hb
      exact hK0 (some (.inl l1_7)) o8
  clear h
  refine ev_go 2 (pc' := 2) (L' := [some (.inr (.inr 167)), some (.inl 0), none]) (S' := []) (σ' := (SH L0, D)) (fun _ _ => rfl) ?_
  refine loop_ind (P := fun s => EvF mtab d k_X4_measure 2 [some (.inr (.inr 167)), some (.inl s.1), none] [] (SH L0, s.2) (none, (SH L0, t0))) (X := fun r => ∀ (o5 : Option (Sum Int Nat)), EvF mtab d k_X4_measure 31 [some (.inr (.inr 167)), dv o5, none] [] (SH L0, r) (none, (SH L0, t0))) hr hX ?_
  clear hr hX
  intro s t hb hK0
  obtain ⟨l1_1, D2⟩ := s
  show EvF mtab d k_X4_measure 2 [some (.inr (.inr 167)), some (.inl l1_1), none] [] (SH L0, D2) (none, (SH L0, t0))
  unfold b_X4_measure_2 at hb
  rcases ite_or hb with ⟨hc, hb⟩ | ⟨hc, hb⟩
  · refine ev_ift hc 5 (pc' := 13) (L' := [some (.inr (.inr 167)), some (.inl l1_1), none]) (S' := []) (σ' := (SH L0, D2)) (fun _ _ => rfl) ?_
    obtain ⟨x3, hx, hb⟩ := bnd hb
    refine ev_bind hx 6 (pc' := 23) (L' := fun x3 => [some (.inr (.inr 167)), some (.inl l1_1), none]) (S' := fun x3 => [.inl x3, .inr (.inr 169)]) (σ' := fun x3 => (SH L0, D2)) (fun _ _ => rfl) ?_
    obtain ⟨D4, hx, hb⟩ := bnd hb
    refine ev_bind hx 2 (pc' := 25) (L' := fun D4 => [some (.inr (.inr 167)), some (.inl l1_1), none]) (S' := fun D4 => []) (σ' := fun D4 => (SH L0, D4)) (fun _ _ => rfl) ?_
    cases hb
    exact ev_go 2 (pc' := 2) (L' := [some (.inr (.inr 167)), some (.inl (w32 (l1_1 + 1))), none]) (S' := []) (σ' := (SH L0, D4)) (fun _ _ => rfl) hK0
  · refine ev_iff hc 5 (pc' := 31) (L' := [some (.inr (.inr 167)), some (.inl l1_1), none]) (S' := []) (σ' := (SH L0, D2)) (fun _ _ => rfl) ?_
    cases hb
    exact hK0 (some (.inl l1_1))
set_option maxRecDepth 100000 in
set_option maxHeartbeats 4000000 in
theorem e_X4_measure_172 (L0 d : Nat) (hd : 4 ≤ d) {D : DT} {t0 : DT} (h : m_X4_measure 172 D = some t0) : Ret mtab d 47 [.inr (.inr 172)] (SH L0, D) (none, (SH L0, t0)) := by
  obtain ⟨d, rfl⟩ : ∃ e, d = e + 1 := ⟨d - 1, by omega⟩
  refine Ret.of (code := k_X4_measure) (ml := 3) rfl ?_
  show EvF mtab d k_X4_measure 0 [some (.inr (.inr 172)), none, none] [] (SH L0, D) (none, (SH L0, t0))
  unfold m_X4_measure at h
  obtain ⟨r, hr, h⟩ := bnd h
  have hX : (fun (r : DT) => ∀ (o5 : Option (Sum Int Nat)), EvF mtab d k_X4_measure 31 [some (.inr (.inr 172)), dv o5, none] [] (SH L0, r) (none, (SH L0, t0))) r := by
    obtain ⟨D6, hre⟩ : ∃ q, q = r := ⟨r, rfl⟩
    subst hre
    intro o5
    show EvF mtab d k_X4_measure 31 [some (.inr (.inr 172)), dv o5, none] [] (SH L0, D6) (none, (SH L0, t0))
    obtain ⟨r, hr, h⟩ := bnd h
    have hX : (fun (r : DT) => ∀ (o17 : Option (Sum Int Nat)) (o18 : Option (Sum Int Nat)), EvF mtab d k_X4_measure 116 [some (.inr (.inr 172)), dv o17, dv o18] [] (SH L0, r) (none, (SH L0, t0))) r := by
      obtain ⟨D19, hre⟩ : ∃ q, q = r := ⟨r, rfl⟩
      subst hre
      intro o17 o18
      show EvF mtab d k_X4_measure 116 [some (.inr (.inr 172)), dv o17, dv o18] [] (SH L0, D19) (none, (SH L0, t0))
      cases h
      exact ev_ret 1 (fun _ _ => rfl)
    clear h
    refine ev_go 5 (pc' := 38) (L' := [some (.inr (.inr 172)), some (.inl 0), none]) (S' := []) (σ' := (SH L0, dput D6 172 4 0)) (fun _ _ => rfl) ?_
    refine loop_ind (P := fun s => ∀ (o8 : Option (Sum Int Nat)), EvF mtab d k_X4_measure 38 [some (.inr (.inr 172)), some (.inl s.1), dv o8] [] (SH L0, s.2) (none, (SH L0, t0))) (X := fun r => ∀ (o17 : Option (Sum Int Nat)) (o18 : Option (Sum Int Nat)), EvF mtab d k_X4_measure 116 [some (.inr (.inr 172)), dv o17, dv o18] [] (SH L0, r) (none, (SH L0, t0))) hr hX ?_ none
    clear hr hX
    intro s t hb hK0
    obtain ⟨l1_7, D9⟩ := s
    intro o8
    show EvF mtab d k_X4_measure 38 [some (.inr (.inr 172)), some (.inl l1_7), dv o8] [] (SH L0, D9) (none, (SH L0, t0))
    unfold b_X4_measure_38 at hb
    rcases ite_or hb with ⟨hc, hb⟩ | ⟨hc, hb⟩
    · refine ev_ift hc 5 (pc' := 49) (L' := [some (.inr (.inr 172)), some (.inl l1_7), dv o8]) (S' := []) (σ' := (SH L0, D9)) (fun _ _ => rfl) ?_
      obtain ⟨x10, hx, hb⟩ := bnd hb
      refine ev_bind hx 4 (pc' := 55) (L' := fun x10 => [some (.inr (.inr 172)), some (.inl l1_7), dv o8]) (S' := fun x10 => [.inl x10]) (σ' := fun x10 => (SH L0, D9)) (fun _ _ => rfl) ?_
      obtain ⟨D11, hx, hb⟩ := bnd hb
      refine ev_bind hx 7 (pc' := 66) (L' := fun D11 => [some (.inr (.inr 172)), some (.inl l1_7), some (.inl x10)]) (S' := fun D11 => []) (σ' := fun D11 => (SH L0, D11)) (fun _ _ => rfl) ?_
      obtain ⟨x12, hx, hb⟩ := bnd hb
      refine ev_bind hx 8 (pc' := 80) (L' := fun x12 => [some (.inr (.inr 172)), some (.inl l1_7), some (.inl x10)]) (S' := fun x12 => [.inl x12, .inl x10, .inr (.inr 175)]) (σ' := fun x12 => (SH L0, D11)) (fun _ _ => rfl) ?_
      obtain ⟨x13, hx, hb⟩ := bnd hb
      refine ev_call (e_X4_needsJump_172 L0 d (by omega) hx) 3 (pc' := 85) (L' := [some (.inr (.inr 172)), some (.inl l1_7), some (.inl x10)]) (S' := [.inl x12, .inl x10, .inr (.inr 175)]) (fun _ _ => rfl) ?_
      obtain ⟨t14, hv, hb⟩ := bnd hb
      have hJ : EvF mtab d k_X4_measure 93 [some (.inr (.inr 172)), some (.inl l1_7), some (.inl x10)] [.inl t14, .inl x12, .inl x10, .inr (.inr 175)] (SH L0, D11) (none, (SH L0, t0)) := by
        obtain ⟨D15, hx, hb⟩ := bnd hb
        refine ev_bind hx 2 (pc' := 95) (L' := fun D15 => [some (.inr (.inr 172)), some (.inl l1_7), some (.inl x10)]) (S' := fun D15 => []) (σ' := fun D15 => (SH L0, D15)) (fun _ _ => rfl) ?_
        obtain ⟨x16, hx, hb⟩ := bnd hb
        refine ev_bind hx 7 (pc' := 106) (L' := fun x16 => [some (.inr (.inr 172)), some (.inl l1_7), some (.inl x10)]) (S' := fun x16 => [.inl x16, .inl (D15 172 4), .inr (.inr 172)]) (σ' := fun x16 => (SH L0, D15)) (fun _ _ => rfl) ?_
        cases hb
        exact ev_go 4 (pc' := 38) (L' := [some (.inr (.inr 172)), some (.inl (w32 (l1_7 + 1))), some (.inl x10)]) (S' := []) (σ' := (SH L0, dput D15 172 4 (w32 ((D15 172 4) + x16)))) (fun _ _ => rfl) (hK0 (some (.inl x10)))
      clear hb
      rcases ite_or hv with ⟨hc, hv⟩ | ⟨hc, hv⟩
      · refine ev_ift hc 1 (pc' := 92) (L' := [some (.inr (.inr 172)), some (.inl l1_7), some (.inl x10)]) (S' := [.inl x12, .inl x10, .inr (.inr 175)]) (σ' := (SH L0, D11)) (fun _ _ => rfl) ?_
        have he0 := Option.some.inj hv
        subst he0
        exact ev_go 1 (pc' := 93) (L' := [some (.inr (.inr 172)), some (.inl l1_7), some (.inl x10)]) (S' := [.inl 0, .inl x12, .inl x10, .inr (.inr 175)]) (σ' := (SH L0, D11)) (fun _ _ => rfl) hJ
      · refine ev_iff hc 1 (pc' := 88) (L' := [some (.inr (.inr 172)), some (.inl l1_7), some (.inl x10)]) (S' := [.inl x12, .inl x10, .inr (.inr 175)]) (σ' := (SH L0, D11)) (fun _ _ => rfl) ?_
        have he0 := Option.some.inj hv
        subst he0
        exact ev_go 2 (pc' := 93) (L' := [some (.inr (.inr 172)), some (.inl l1_7), some (.inl x10)]) (S' := [.inl 2, .inl x12, .inl x10, .inr (.inr 175)]) (σ' := (SH L0, D11)) (fun _ _ => rfl) hJ
    · refine ev_iff hc 5 (pc' := 116) (L' := [some (.inr (.inr 172)), some (.inl l1_7), dv o8]) (S' := []) (σ' := (SH L0, D9)) (fun _ _ => rfl) ?_
      cases hb
      exact hK0 (some (.inl l1_7)) o8
  clear h
  refine ev_go 2 (pc' := 2) (L' := [some (.inr (.inr 172)), some (.inl 0), none]) (S' := []) (σ' := (SH L0, D)) (fun _ _ => rfl) ?_
  refine loop_ind (P := fun s => EvF mtab d k_X4_measure 2 [some (.inr (.inr 172)), some (.inl s.1), none] [] (SH L0, s.2) (none, (SH L0, t0))) (X := fun r => ∀ (o5 : Option (Sum Int Nat)), EvF mtab d k_X4_measure 31 [some (.inr (.inr 172)), dv o5, none] [] (SH L0, r) (none, (SH L0, t0))) hr hX ?_
  clear hr hX
  intro s t hb hK0
  obtain ⟨l1_1, D2⟩ := s
  show EvF mtab d k_X4_measure 2 [some (.inr (.inr 172)), some (.inl l1_1), none] [] (SH L0, D2) (none, (SH L0, t0))
  unfold b_X4_measure_2 at hb
  rcases ite_or hb with ⟨hc, hb⟩ | ⟨hc, hb⟩
  · refine ev_ift hc 5 (pc' := 13) (L' := [some (.inr (.inr 172)), some (.inl l1_1), none]) (S' := []) (σ' := (SH L0, D2)) (fun _ _ => rfl) ?_
    obtain ⟨x3, hx, hb⟩ := bnd hb
    refine ev_bind hx 6 (pc' := 23) (L' := fun x3 => [some (.inr (.inr 172)), some (.inl l1_1), none]) (S' := fun x3 => [.inl x3, .inr (.inr 174)]) (σ' := fun x3 => (SH L0, D2)) (fun _ _ => rfl) ?_
    obtain ⟨D4, hx, hb⟩ := bnd hb
    refine ev_bind hx 2 (pc' := 25) (L' := fun D4 => [some (.inr (.inr 172)), some (.inl l1_1), none]) (S' := fun D4 => []) (σ' := fun D4 => (SH L0, D4)) (fun _ _ => rfl) ?_
    cases hb
    exact ev_go 2 (pc' := 2) (L' := [some (.inr (.inr 172)), some (.inl (w32 (l1_1 + 1))), none]) (S' := []) (σ' := (SH L0, D4)) (fun _ _ => rfl) hK0
  · refine ev_iff hc 5 (pc' := 31) (L' := [some (.inr (.inr 172)), some (.inl l1_1), none]) (S' := []) (σ' := (SH L0, D2)) (fun _ _ => rfl) ?_
    cases hb
    exact hK0 (some (.inl l1_1))
set_option maxRecDepth 100000 in
set_option maxHeartbeats 4000000 in
theorem e_X4_measure_177 (L0 d : Nat) (hd : 4 ≤ d) {D : DT} {t0 : DT} (h : m_X4_measure 177 D = some t0) : Ret mtab d 47 [.inr (.inr 177)] (SH L0, D) (none, (SH L0, t0)) := by
  obtain ⟨d, rfl⟩ : ∃ e, d = e + 1 := ⟨d - 1, by omega⟩
  refine Ret.of (code := k_X4_measure) (ml := 3) rfl ?_
  show EvF mtab d k_X4_measure 0 [some (.inr (.inr 177)), none, none] [] (SH L0, D) (none, (SH L0, t0))
  unfold m_X4_measure at h
  obtain ⟨r, hr, h⟩ := bnd h
  have hX : (fun (r : DT) => ∀ (o5 : Option (Sum Int Nat)), EvF mtab d k_X4_measure 31 [some (.inr (.inr 177)), dv o5, none] [] (SH L0, r) (none, (SH L0, t0))) r := by
    obtain ⟨D6, hre⟩ : ∃ q, q = r := ⟨r, rfl⟩
    subst hre
    intro o5
    show EvF mtab d k_X4_measure 31 [some (.inr (.inr 177)), dv o5, none] [] (SH L0, D6) (none, (SH L0, t0))
    obtain ⟨r, hr, h⟩ := bnd h
    have hX : (fun (r : DT) => ∀ (o17 : Option (Sum Int Nat)) (o18 : Option (Sum Int Nat)), EvF mtab d k_X4_measure 116 [some (.inr (.inr 177)), dv o17, dv o18] [] (SH L0, r) (none, (SH L0, t0))) r := by
      obtain ⟨D19, hre⟩ : ∃ q, q = r := ⟨r, rfl⟩
      subst hre
      intro o17 o18
      show EvF mtab d k_X4_measure 116 [some (.inr (.inr 177)), dv o17, dv o18] [] (SH L0, D19) (none, (SH L0, t0))
      cases h
      exact ev_ret 1 (fun _ _ => rfl)
    clear h
    refine ev_go 5 (pc' := 38) (L' := [some (.inr (.inr 177)), some (.inl 0), none]) (S' := []) (σ' := (SH L0, dput D6 177 4 0)) (fun _ _ => rfl) ?_
    refine loop_ind (P := fun s => ∀ (o8 : Option (Sum Int Nat)), EvF mtab d k_X4_measure 38 [some (.inr (.inr 177)), some (.inl s.1), dv o8] [] (SH L0, s.2) (none, (SH L0, t0))) (X := fun r => ∀ (o17 : Option (Sum Int Nat)) (o18 : Option (Sum Int Nat)), EvF mtab d k_X4_measure 116 [some (.inr (.inr 177)), dv o17, dv o18] [] (SH L0, r) (none, (SH L0, t0))) hr hX ?_ none
    clear hr hX
    intro s t hb hK0
    obtain ⟨l1_7, D9⟩ := s
    intro o8
    show EvF mtab d k_X4_measure 38 [some (.inr (.inr 177)), some (.inl l1_7), dv o8] [] (SH L0, D9) (none, (SH L0, t0))
    unfold b_X4_measure_38 at hb
    rcases ite_or hb with ⟨hc, hb⟩ | ⟨hc, hb⟩
    · refine ev_ift hc 5 (pc' := 49) (L' := [some (.inr (.inr 177)), some (.inl l1_7), dv o8]) (S' := []) (σ' := (SH L0, D9)) (fun _ _ => rfl) ?_
      obtain ⟨x10, hx, hb⟩ := bnd hb
      refine ev_bind hx 4 (pc' := 55) (L' := fun x10 => [some (.inr (.inr 177)), some (.inl l1_7), dv o8]) (S' := fun x10 => [.inl x10]) (σ' := fun x10 => (SH L0, D9)) (fun _ _ => rfl) ?_
      obtain ⟨D11, hx, hb⟩ := bnd hb
      refine ev_bind hx 7 (pc' := 66) (L' := fun D11 => [some (.inr (.inr 177)), some (.inl l1_7), some (.inl x10)]) (S' := fun D11 => []) (σ' := fun D11 => (SH L0, D11)) (fun _ _ => rfl) ?_
      obtain ⟨x12, hx, hb⟩ := bnd hb
      refine ev_bind hx 8 (pc' := 80) (L' := fun x12 => [some (.inr (.inr 177)), some (.inl l1_7), some (.inl x10)]) (S' := fun x12 => [.inl x12, .inl x10, .inr (.inr 180)]) (σ' := fun x12 => (SH L0, D11)) (fun _ _ => rfl) ?_
      obtain ⟨x13, hx, hb⟩ := bnd hb
      refine ev_call (e_X4_needsJump_177 L0 d (by omega) hx) 3 (pc' := 85) (L' := [some (.inr (.inr 177)), some (.inl l1_7), some (.inl x10)]) (S' := [.inl x12, .inl x10, .inr (.inr 180)]) (fun _ _ => rfl) ?_
      obtain ⟨t14, hv, hb⟩ := bnd hb
      have hJ : EvF mtab d k_X4_measure 93 [some (.inr (.inr 177)), some (.inl l1_7), some (.inl x10)] [.inl t14, .inl x12, .inl x10, .inr (.inr 180)] (SH L0, D11) (none, (SH L0, t0)) := by
        obtain ⟨D15, hx, hb⟩ := bnd hb
        refine ev_bind hx 2 (pc' := 95) (L' := fun D15 => [some (.inr (.inr 177)), some (.inl l1_7), some (.inl x10)]) (S' := fun D15 => []) (σ' := fun D15 => (SH L0, D15)) (fun _ _ => rfl) ?_
        obtain ⟨x16, hx, hb⟩ := bnd hb
        refine ev_bind hx 7 (pc' := 106) (L' := fun x16 => [some (.inr (.inr 177)), some (.inl l1_7), some (.inl x10)]) (S' := fun x16 => [.inl x16, .inl (D15 177 4), .inr (.inr 177)]) (σ' := fun x16 => (SH L0, D15)) (fun _ _ => rfl) ?_
        cases hb
        exact ev_go 4 (pc' := 38) (L' := [some (.inr (.inr 177)), some (.inl (w32 (l1_7 + 1))), some (.inl x10)]) (S' := []) (σ' := (SH L0, dput D15 177 4 (w32 ((D15 177 4) + x16)))) (fun _ _ => rfl) (hK0 (some (.inl x10)))
      clear hb
      rcases ite_or hv with ⟨hc, hv⟩ | ⟨hc, hv⟩
      · refine ev_ift hc 1 (pc' := 92) (L' := [some (.inr (.inr 177)), some (.inl l1_7), some (.inl x10)]) (S' := [.inl x12, .inl x10, .inr (.inr 180)]) (σ' := (SH L0, D11)) (fun _ _ => rfl) ?_
        have he0 := Option.some.inj hv
        subst he0
        exact ev_go 1 (pc' := 93) (L' := [some (.inr (.inr 177)), some (.inl l1_7), some (.inl x10)]) (S' := [.inl 0, .inl x12, .inl x10, .inr (.inr 180)]) (σ' := (SH L0, D11)) (fun _ _ => rfl) hJ
      · refine ev_iff hc 1 (pc' := 88) (L' := [some (.inr (.inr 177)), some (.inl l1_7), some (.inl x10)]) (S' := [.inl x12, .inl x10, .inr (.inr 180)]) (σ' := (SH L0, D11)) (fun _ _ => rfl) ?_
        have he0 := Option.some.inj hv
        subst he0
        exact ev_go 2 (pc' := 93) (L' := [some (.inr (.inr 177)), some (.inl l1_7), some (.inl x10)]) (S' := [.inl 2, .inl x12, .inl x10, .inr (.inr 180)]) (σ' := (SH L0, D11)) (fun _ _ => rfl) hJ
    · refine ev_iff hc 5 (pc' := 116) (L' := [some (.inr (.inr 177)), some (.inl l1_7), dv o8]) (S' := []) (σ' := (SH L0, D9)) (fun _ _ => rfl) ?_
      cases hb
      exact hK0 (some (.inl l1_7)) o8
  clear h
  refine ev_go 2 (pc' := 2) (L' := [some (.inr (.inr 177)), some (.inl 0), none]) (S' := []) (σ' := (SH L0, D)) (fun _ _ => rfl) ?_
  refine loop_ind (P := fun s => EvF mtab d k_X4_measure 2 [some (.inr (.inr 177)), some (.inl s.1), none] [] (SH L0, s.2) (none, (SH L0, t0))) (X := fun r => ∀ (o5 : Option (Sum Int Nat)), EvF mtab d k_X4_measure 31 [some (.inr (.inr 177)), dv o5, none] [] (SH L0, r) (none, (SH L0, t0))) hr hX ?_
  clear hr hX
  intro s t hb hK0
  obtain ⟨l1_1, D2⟩ := s
  show EvF mtab d k_X4_measure 2 [some (.inr (.inr 177)), some (.inl l1_1), none] [] (SH L0, D2) (none, (SH L0, t0))
  unfold b_X4_measure_2 at hb
  rcases ite_or hb with ⟨hc, hb⟩ | ⟨hc, hb⟩
  · refine ev_ift hc 5 (pc' := 13) (L' := [some (.inr (.inr 177)), some (.inl l1_1), none]) (S' := []) (σ' := (SH L0, D2)) (fun _ _ => rfl) ?_
    obtain ⟨x3, hx, hb⟩ := bnd hb
    refine ev_bind hx 6 (pc' := 23) (L' := fun x3 => [some (.inr (.inr 177)), some (.inl l1_1), none]) (S' := fun x3 => [.inl x3, .inr (.inr 179)]) (σ' := fun x3 => (SH L0, D2)) (fun _ _ => rfl) ?_
    obtain ⟨D4, hx, hb⟩ := bnd hb
    refine ev_bind hx 2 (pc' := 25) (L' := fun D4 => [some (.inr (.inr 177)), some (.inl l1_1), none]) (S' := fun D4 => []) (σ' := fun D4 => (SH L0, D4)) (fun _ _ => rfl) ?_
    cases hb
    exact ev_go 2 (pc' := 2) (L' := [some (.inr (.inr 177)), some (.inl (w32 (l1_1 + 1))), none]) (S' := []) (σ' := (SH L0, D4)) (fun _ _ => rfl) hK0
  · refine ev_iff hc 5 (pc' := 31) (L' := [some (.inr (.inr 177)), some (.inl l1_1), none]) (S' := []) (σ' := (SH L0, D2)) (fun _ _ => rfl) ?_
    cases hb
    exact hK0 (some (.inl l1_1))
set_option maxRecDepth 100000 in
set_option maxHeartbeats 4000000 in
theorem e_X4_measure_182 (L0 d : Nat) (hd : 4 ≤ d) {D : DT} {t0 : DT} (h : m_X4_measure 182 D = some t0) : Ret mtab d 47 [.inr (.inr 182)] (SH L0, D) (none, (SH L0, t0)) := by
  obtain ⟨d, rfl⟩ : ∃ e, d = e + 1 := ⟨d - 1, by omega⟩
  refine Ret.of (code := k_X4_measure) (ml := 3) rfl ?_
  show EvF mtab d k_X4_measure 0 [some (.inr (.inr 182)), none, none] [] (SH L0, D) (none, (SH L0, t0))
  unfold m_X4_measure at h
  obtain ⟨r, hr, h⟩ := bnd h
  have hX : (fun (r : DT) => ∀ (o5 : Option (Sum Int Nat)), EvF mtab d k_X4_measure 31 [some (.inr (.inr 182)), dv o5, none] [] (SH L0, r) (none, (SH L0, t0))) r := by
    obtain ⟨D6, hre⟩ : ∃ q, q = r := ⟨r, rfl⟩
    subst hre
    intro o5
    show EvF mtab d k_X4_measure 31 [some (.inr (.inr 182)), dv o5, none] [] (SH L0, D6) (none, (SH L0, t0))
    obtain ⟨r, hr, h⟩ := bnd h
    have hX : (fun (r : DT) => ∀ (o17 : Option (Sum Int Nat)) (o18 : Option (Sum Int Nat)), EvF mtab d k_X4_measure 116 [some (.inr (.inr 182)), dv o17, dv o18] [] (SH L0, r) (none, (SH L0, t0))) r := by
      obtain ⟨D19, hre⟩ : ∃ q, q = r := ⟨r, rfl⟩
      subst hre
      intro o17 o18
      show EvF mtab d k_X4_measure 116 [some (.inr (.inr 182)), dv o17, dv o18] [] (SH L0, D19) (none, (SH L0, t0))
      cases h
      exact ev_ret 1 (fun _ _ => rfl)
    clear h
    refine ev_go 5 (pc' := 38) (L' := [some (.inr (.inr 182)), some (.inl 0), none]) (S' := []) (σ' := (SH L0, dput D6 182 4 0)) (fun _ _ => rfl) ?_
    refine loop_ind (P := fun s => ∀ (o8 : Option (Sum Int Nat)), EvF mtab d k_X4_measure 38 [some (.inr (.inr 182)), some (.inl s.1), dv o8] [] (SH L0, s.2) (none, (SH L0, t0))) (X := fun r => ∀ (o17 : Option (Sum Int Nat)) (o18 : Option (Sum Int Nat)), EvF mtab d k_X4_measure 116 [some (.inr (.inr 182)), dv o17, dv o18] [] (SH L0, r) (none, (SH L0, t0))) hr hX ?_ none
    clear hr hX
    intro s t hb hK0
    obtain ⟨l1_7, D9⟩ := s
    intro o8
    show EvF mtab d k_X4_measure 38 [some (.inr (.inr 182)), some (.inl l1_7), dv o8] [] (SH L0, D9) (none, (SH L0, t0))
    unfold b_X4_measure_38 at hb
    rcases ite_or hb with ⟨hc, hb⟩ | ⟨hc, hb⟩
    · refine ev_ift hc 5 (pc' := 49) (L' := [some (.inr (.inr 182)), some (.inl l1_7), dv o8]) (S' := []) (σ' := (SH L0, D9)) (fun _ _ => rfl) ?_
      obtain ⟨x10, hx, hb⟩ := bnd hb
      refine ev_bind hx 4 (pc' := 55) (L' := fun x10 => [some (.inr (.inr 182)), some (.inl l1_7), dv o8]) (S' := fun x10 => [.inl x10]) (σ' := fun x10 => (SH L0, D9)) (fun _ _ => rfl) ?_
      obtain ⟨D11, hx, hb⟩ := bnd hb
      refine ev_bind hx 7 (pc' := 66) (L' := fun D11 => [some (.inr (.inr 182)), some (.inl l1_7), some (.inl x10)]) (S' := fun D11 => []) (σ' := fun D11 => (SH L0, D11)) (fun _ _ => rfl) ?_
      obtain ⟨x12, hx, hb⟩ := bnd hb
      refine ev_bind hx 8 (pc' := 80) (L' := fun x12 => [some (.inr (.inr 182)), some (.inl l1_7), some (.inl x10)]) (S' := fun x12 => [.inl x12, .inl x10, .inr (.inr 185)]) (σ' := fun x12 => (SH L0, D11)) (fun _ _ => rfl) ?_
      obtain ⟨x13, hx, hb⟩ := bnd hb
      refine ev_call (e_X4_needsJump_182 L0 d (by omega) hx) 3 (pc' := 85) (L' := [some (.inr (.inr 182)), some (.inl l1_7), some (.inl x10)]) (S' := [.inl x12, .inl x10, .inr (.inr 185)]) (fun _ _ => rfl) ?_
      obtain ⟨t14, hv, hb⟩ := bnd hb
      have hJ : EvF mtab d k_X4_measure 93 [some (.inr (.inr 182)), some (.inl l1_7), some (.inl x10)] [.inl t14, .inl x12, .inl x10, .inr (.inr 185)] (SH L0, D11) (none, (SH L0, t0)) := by
        obtain ⟨D15, hx, hb⟩ := bnd hb
        refine ev_bind hx 2 (pc' := 95) (L' := fun D15 => [some (.inr (.inr 182)), some (.inl l1_7), some (.inl x10)]) (S' := fun D15 => []) (σ' := fun D15 => (SH L0, D15)) (fun _ _ => rfl) ?_
        obtain ⟨x16, hx, hb⟩ := bnd hb
        refine ev_bind hx 7 (pc' := 106) (L' := fun x16 => [some (.inr (.inr 182)), some (.inl l1_7), some (.inl x10)]) (S' := fun x16 => [.inl x16, .inl (D15 182 4), .inr (.inr 182)]) (σ' := fun x16 => (SH L0, D15)) (fun _ _ => rfl) ?_
        cases hb
        exact ev_go 4 (pc' := 38) (L' := [some (.inr (.inr 182)), some (.inl (w32 (l1_7 + 1))), some (.inl x10)]) (S' := []) (σ' := (SH L0, dput D15 182 4 (w32 ((D15 182 4) + x16)))) (fun _ _ => rfl) (hK0 (some (.inl x10)))
      clear hb
      rcases ite_or hv with ⟨hc, hv⟩ | ⟨hc, hv⟩
      · refine ev_ift hc 1 (pc' := 92) (L' := [some (.inr (.inr 182)), some (.inl l1_7), some (.inl x10)]) (S' := [.inl x12, .inl x10, .inr (.inr 185)]) (σ' := (SH L0, D11)) (fun _ _ => rfl) ?_
        have he0 := Option.some.inj hv
        subst he0
        exact ev_go 1 (pc' := 93) (L' := [some (.inr (.inr 182)), some (.inl l1_7), some (.inl x10)]) (S' := [.inl 0, .inl x12, .inl x10, .inr (.inr 185)]) (σ' := (SH L0, D11)) (fun _ _ => rfl) hJ
      · refine ev_iff hc 1 (pc' := 88) (L' := [some (.inr (.inr 182)), some (.inl l1_7), some (.inl x10)]) (S' := [.inl x12, .inl x10, .inr (.inr 185)]) (σ' := (SH L0, D11)) (fun _ _ => rfl) ?_
        have he0 := Option.some.inj hv
        subst he0
        exact ev_go 2 (pc' := 93) (L' := [some (.inr (.inr 182)), some (.inl l1_7), some (.inl x10)]) (S' := [.inl 2, .inl x12, .inl x10, .inr (.inr 185)]) (σ' := (SH L0, D11)) (fun _ _ => rfl) hJ
    · refine ev_iff hc 5 (pc' := 116) (L' := [some (.inr (.inr 182)), some (.inl l1_7), dv o8]) (S' := []) (σ' := (SH L0, D9)) (fun _ _ => rfl) ?_
      cases hb
      exact hK0 (some (.inl l1_7)) o8
  clear h
  refine ev_go 2 (pc' := 2) (L' := [some (.inr (.inr 182)), some (.inl 0), none]) (S' := []) (σ' := (SH L0, D)) (fun _ _ => rfl) ?_
  refine loop_ind (P := fun s => EvF mtab d k_X4_measure 2 [some (.inr (.inr 182)), some (.inl s.1), none] [] (SH L0, s.2) (none, (SH L0, t0))) (X := fun r => ∀ (o5 : Option (Sum Int Nat)), EvF mtab d k_X4_measure 31 [some (.inr (.inr 182)), dv o5, none] [] (SH L0, r) (none, (SH L0, t0))) hr hX ?_
  clear hr hX
  intro s t hb hK0
  obtain ⟨l1_1, D2⟩ := s
  show EvF mtab d k_X4_measure 2 [some (.inr (.inr 182)), some (.inl l1_1), none] [] (SH L0, D2) (none, (SH L0, t0))
  unfold b_X4_measure_2 at hb
  rcases ite_or hb with ⟨hc, hb⟩ | ⟨hc, hb⟩
  · refine ev_ift hc 5 (pc' := 13) (L' := [some (.inr (.inr 182)), some (.inl l1_1), none]) (S' := []) (σ' := (SH L0, D2)) (fun _ _ => rfl) ?_
    obtain ⟨x3, hx, hb⟩ := bnd hb
    refine ev_bind hx 6 (pc' := 23) (L' := fun x3 => [some (.inr (.inr 182)), some (.inl l1_1), none]) (S' := fun x3 => [.inl x3, .inr (.inr 184)]) (σ' := fun x3 => (SH L0, D2)) (fun _ _ => rfl) ?_
    obtain ⟨D4, hx, hb⟩ := bnd hb
    refine ev_bind hx 2 (pc' := 25) (L' := fun D4 => [some (.inr (.inr 182)), some (.inl l1_1), none]) (S' := fun D4 => []) (σ' := fun D4 => (SH L0, D4)) (fun _ _ => rfl) ?_
    cases hb
    exact ev_go 2 (pc' := 2) (L' := [some (.inr (.inr 182)), some (.inl (w32 (l1_1 + 1))), none]) (S' := []) (σ' := (SH L0, D4)) (fun _ _ => rfl) hK0
  · refine ev_iff hc 5 (pc' := 31) (L' := [some (.inr (.inr 182)), some (.inl l1_1), none]) (S' := []) (σ' := (SH L0, D2)) (fun _ _ => rfl) ?_
    cases hb
    exact hK0 (some (.inl l1_1))
set_option maxRecDepth 100000 in
set_option maxHeartbeats 4000000 in
theorem e_X4_byLine_162_7 (L0 d : Nat) (hd : 5 ≤ d) {D : DT} {t0 : DT} (h : m_X4_byLine 162 7 D = some t0) : Ret mtab d 44 [.inr (.inr 162), .inr (.inr 7)] (SH L0, D) (none, (SH L0, t0)) := by
  obtain ⟨d, rfl⟩ : ∃ e, d = e + 1 := ⟨d - 1, by omega⟩
  refine Ret.of (code := k_X4_byLine) (ml := 2) rfl ?_
  show EvF mtab d k_X4_byLine 0 [some (.inr (.inr 162)), some (.inr (.inr 7))] [] (SH L0, D) (none, (SH L0, t0))
  unfold m_X4_byLine at h
  obtain ⟨D1, hx, h⟩ := bnd h
  refine ev_bind hx 7 (pc' := 12) (L' := fun D1 => [some (.inr (.inr 162)), some (.inr (.inr 7))]) (S' := fun D1 => []) (σ' := fun D1 => (SH L0, D1)) (fun _ _ => rfl) ?_
  obtain ⟨D2, hx, h⟩ := bnd h
  refine ev_call (e_X4_measure_162 L0 d (by omega) hx) 2 (pc' := 16) (L' := [some (.inr (.inr 162)), some (.inr (.inr 7))]) (S' := []) (fun _ _ => rfl) ?_
  cases h
  exact ev_ret 1 (fun _ _ => rfl)
set_option maxRecDepth 100000 in
set_option maxHeartbeats 4000000 in
theorem e_X4_byLine_182_17 (L0 d : Nat) (hd : 5 ≤ d) {D : DT} {t0 : DT} (h : m_X4_byLine 182 17 D = some t0) : Ret mtab d 44 [.inr (.inr 182), .inr (.inr 17)] (SH L0, D) (none, (SH L0, t0)) := by
  obtain ⟨d, rfl⟩ : ∃ e, d = e + 1 := ⟨d - 1, by omega⟩
  refine Ret.of (code := k_X4_byLine) (ml := 2) rfl ?_
  show EvF mtab d k_X4_byLine 0 [some (.inr (.inr 182)), some (.inr (.inr 17))] [] (SH L0, D) (none, (SH L0, t0))
  unfold m_X4_byLine at h
  obtain ⟨D1, hx, h⟩ := bnd h
  refine ev_bind hx 7 (pc' := 12) (L' := fun D1 => [some (.inr (.inr 182)), some (.inr (.inr 17))]) (S' := fun D1 => []) (σ' := fun D1 => (SH L0, D1)) (fun _ _ => rfl) ?_
  obtain ⟨D2, hx, h⟩ := bnd h
  refine ev_call (e_X4_measure_182 L0 d (by omega) hx) 2 (pc' := 16) (L' := [some (.inr (.inr 182)), some (.inr (.inr 17))]) (S' := []) (fun _ _ => rfl) ?_
  cases h
  exact ev_ret 1 (fun _ _ => rfl)
set_option maxRecDepth 100000 in
set_option maxHeartbeats 4000000 in
theorem e_X4_append_167_131 (L0 d : Nat) (hd : 1 ≤ d) {p1 p3 p4 : Int} {D : DT} {t0 : (Int × DT)} (h : m_X4_append 167 p1 p3 p4 D = some t0) : Ret mtab d 46 [.inr (.inr 167), .inl p1, .inr (.inr 131), .inl p3, .inl p4] (SH L0, D) (some (.inl t0.1), (SH L0, t0.2)) := by
  obtain ⟨d, rfl⟩ : ∃ e, d = e + 1 := ⟨d - 1, by omega⟩
  refine Ret.of (code := k_X4_append) (ml := 8) rfl ?_
  show EvF mtab d k_X4_append 0 [some (.inr (.inr 167)), some (.inl p1), some (.inr (.inr 131)), some (.inl p3), some (.inl p4), none, none, none] [] (SH L0, D) (some (.inl t0.1), (SH L0, t0.2))
  unfold m_X4_append at h
  obtain ⟨r, hr, h⟩ := bnd h
  have hX : (fun (r : (Int × DT)) => ∀ (o13 : Option (Sum Int Nat)) (o14 : Option (Sum Int Nat)), EvF mtab d k_X4_append 76 [some (.inr (.inr 167)), some (.inl p1), some (.inr (.inr 131)), some (.inl p3), some (.inl p4), some (.inl r.1), dv o13, dv o14] [] (SH L0, r.2) (some (.inl t0.1), (SH L0, t0.2))) r := by
    obtain ⟨l5_12, D15⟩ := r
    intro o13 o14
    show EvF mtab d k_X4_append 76 [some (.inr (.inr 167)), some (.inl p1), some (.inr (.inr 131)), some (.inl p3), some (.inl p4), some (.inl l5_12), dv o13, dv o14] [] (SH L0, D15) (some (.inl t0.1), (SH L0, t0.2))
    cases h
    exact ev_ret 2 (fun _ _ => rfl)
  clear h
  refine ev_go 4 (pc' := 7) (L' := [some (.inr (.inr 167)), some (.inl p1), some (.inr (.inr 131)), some (.inl p3), some (.inl p4), some (.inl p4), some (.inl 0), none]) (S' := []) (σ' := (SH L0, D)) (fun _ _ => rfl) ?_
  refine loop_ind (P := fun s => ∀ (o3 : Option (Sum Int Nat)), EvF mtab d k_X4_append 7 [some (.inr (.inr 167)), some (.inl p1), some (.inr (.inr 131)), some (.inl p3), some (.inl p4), some (.inl s.1), some (.inl s.2.1), dv o3] [] (SH L0, s.2.2) (some (.inl t0.1), (SH L0, t0.2))) (X := fun r => ∀ (o13 : Option (Sum Int Nat)) (o14 : Option (Sum Int Nat)), EvF mtab d k_X4_append 76 [some (.inr (.inr 167)), some (.inl p1), some (.inr (.inr 131)), some (.inl p3), some (.inl p4), some (.inl r.1), dv o13, dv o14] [] (SH L0, r.2) (some (.inl t0.1), (SH L0, t0.2))) hr hX ?_ none
  clear hr hX
  intro s t hb hK0
  obtain ⟨l5_1, l6_2, D4⟩ := s
  intro o3
  show EvF mtab d k_X4_append 7 [some (.inr (.inr 167)), some (.inl p1), some (.inr (.inr 131)), some (.inl p3), some (.inl p4), some (.inl l5_1), some (.inl l6_2), dv o3] [] (SH L0, D4) (some (.inl t0.1), (SH L0, t0.2))
  unfold b_X4_append_7 at hb
  obtain ⟨x5, hx, hb⟩ := bnd hb
  refine ev_bind hx 6 (pc' := 18) (L' := fun x5 => [some (.inr (.inr 167)), some (.inl p1), some (.inr (.inr 131)), some (.inl p3), some (.inl p4), some (.inl l5_1), some (.inl l6_2), dv o3]) (S' := fun x5 => [.inl x5, .inl l6_2]) (σ' := fun x5 => (SH L0, D4)) (fun _ _ => rfl) ?_
  rcases ite_or hb with ⟨hc, hb⟩ | ⟨hc, hb⟩
  · refine ev_ift hc 1 (pc' := 21) (L' := [some (.inr (.inr 167)), some (.inl p1), some (.inr (.inr 131)), some (.inl p3), some (.inl p4), some (.inl l5_1), some (.inl l6_2), dv o3]) (S' := []) (σ' := (SH L0, D4)) (fun _ _ => rfl) ?_
    rcases ite_or hb with ⟨hc, hb⟩ | ⟨hc, hb⟩
    · refine ev_ift hc 3 (pc' := 28) (L' := [some (.inr (.inr 167)), some (.inl p1), some (.inr (.inr 131)), some (.inl p3), some (.inl p4), some (.inl l5_1), some (.inl l6_2), dv o3]) (S' := []) (σ' := (SH L0, D4)) (fun _ _ => rfl) ?_
      obtain ⟨x6, hx, hb⟩ := bnd hb
      refine ev_bind hx 7 (pc' := 41) (L' := fun x6 => [some (.inr (.inr 167)), some (.inl p1), some (.inr (.inr 131)), some (.inl p3), some (.inl p4), some (.inl l5_1), some (.inl l6_2), dv o3]) (S' := fun x6 => [.inl x6, .inr (.inr 132)]) (σ' := fun x6 => (SH L0, D4)) (fun _ _ => rfl) ?_
      obtain ⟨x7, hx, hb⟩ := bnd hb
      refine ev_bind hx 3 (pc' := 45) (L' := fun x7 => [some (.inr (.inr 167)), some (.inl p1), some (.inr (.inr 131)), some (.inl p3), some (.inl p4), some (.inl l5_1), some (.inl l6_2), dv o3]) (S' := fun x7 => [.inl x7]) (σ' := fun x7 => (SH L0, D4)) (fun _ _ => rfl) ?_
      obtain ⟨x8, hx, hb⟩ := bnd hb
      refine ev_bind hx 5 (pc' := 54) (L' := fun x8 => [some (.inr (.inr 167)), some (.inl p1), some (.inr (.inr 131)), some (.inl p3), some (.inl p4), some (.inl l5_1), some (.inl l6_2), some (.inl x7)]) (S' := fun x8 => [.inl x8]) (σ' := fun x8 => (SH L0, D4)) (fun _ _ => rfl) ?_
      obtain ⟨⟨l5_10, D11⟩, hv, hb⟩ := bnd hb
      have hJ : EvF mtab d k_X4_append 70 [some (.inr (.inr 167)), some (.inl p1), some (.inr (.inr 131)), some (.inl p3), some (.inl p4), some (.inl l5_10), some (.inl l6_2), some (.inl x7)] [] (SH L0, D11) (some (.inl t0.1), (SH L0, t0.2)) := by
        cases hb
        exact ev_go 2 (pc' := 7) (L' := [some (.inr (.inr 167)), some (.inl p1), some (.inr (.inr 131)), some (.inl p3), some (.inl p4), some (.inl l5_10), some (.inl (w32 (l6_2 + 1))), some (.inl x7)]) (S' := []) (σ' := (SH L0, D11)) (fun _ _ => rfl) (hK0 (some (.inl x7)))
      clear hb
      rcases ite_or hv with ⟨hc, hv⟩ | ⟨hc, hv⟩
      · refine ev_ift hc 2 (pc' := 58) (L' := [some (.inr (.inr 167)), some (.inl p1), some (.inr (.inr 131)), some (.inl p3), some (.inl p4), some (.inl l5_1), some (.inl l6_2), some (.inl x7)]) (S' := []) (σ' := (SH L0, D4)) (fun _ _ => rfl) ?_
        obtain ⟨D9, hx, hv⟩ := bnd hv
        refine ev_bind hx 5 (pc' := 67) (L' := fun D9 => [some (.inr (.inr 167)), some (.inl p1), some (.inr (.inr 131)), some (.inl p3), some (.inl p4), some (.inl l5_1), some (.inl l6_2), some (.inl x7)]) (S' := fun D9 => []) (σ' := fun D9 => (SH L0, D9)) (fun _ _ => rfl) ?_
        have he0 := Option.some.inj hv
        obtain ⟨ha0, he1⟩ := Prod.mk.inj he0
        clear he0
        subst ha0
        subst he1
        exact ev_go 1 (pc' := 70) (L' := [some (.inr (.inr 167)), some (.inl p1), some (.inr (.inr 131)), some (.inl p3), some (.inl p4), some (.inl (w32 (l5_1 + 1))), some (.inl l6_2), some (.inl x7)]) (S' := []) (σ' := (SH L0, D9)) (fun _ _ => rfl) hJ
      · refine ev_iff hc 2 (pc' := 70) (L' := [some (.inr (.inr 167)), some (.inl p1), some (.inr (.inr 131)), some (.inl p3), some (.inl p4), some (.inl l5_1), some (.inl l6_2), some (.inl x7)]) (S' := []) (σ' := (SH L0, D4)) (fun _ _ => rfl) ?_
        have he0 := Option.some.inj hv
        obtain ⟨ha0, he1⟩ := Prod.mk.inj he0
        clear he0
        subst ha0
        subst he1
        exact hJ
    · refine ev_iff hc 3 (pc' := 76) (L' := [some (.inr (.inr 167)), some (.inl p1), some (.inr (.inr 131)), some (.inl p3), some (.inl p4), some (.inl l5_1), some (.inl l6_2), dv o3]) (S' := []) (σ' := (SH L0, D4)) (fun _ _ => rfl) ?_
      cases hb
      exact hK0 (some (.inl l6_2)) o3
  · refine ev_iff hc 1 (pc' := 76) (L' := [some (.inr (.inr 167)), some (.inl p1), some (.inr (.inr 131)), some (.inl p3), some (.inl p4), some (.inl l5_1), some (.inl l6_2), dv o3]) (S' := []) (σ' := (SH L0, D4)) (fun _ _ => rfl) ?_
    cases hb
    exact hK0 (some (.inl l6_2)) o3
set_option maxRecDepth 100000 in
set_option maxHeartbeats 4000000 in
theorem e_X4_append_172_131 (L0 d : Nat) (hd : 1 ≤ d) {p1 p3 p4 : Int} {D : DT} {t0 : (Int × DT)} (h : m_X4_append 172 p1 p3 p4 D = some t0) : Ret mtab d 46 [.inr (.inr 172), .inl p1, .inr (.inr 131), .inl p3, .inl p4] (SH L0, D) (some (.inl t0.1), (SH L0, t0.2)) := by
  obtain ⟨d, rfl⟩ : ∃ e, d = e + 1 := ⟨d - 1, by omega⟩
  refine Ret.of (code := k_X4_append) (ml := 8) rfl ?_
  show EvF mtab d k_X4_append 0 [some (.inr (.inr 172)), some (.inl p1), some (.inr (.inr 131)), some (.inl p3), some (.inl p4), none, none, none] [] (SH L0, D) (some (.inl t0.1), (SH L0, t0.2))
  unfold m_X4_append at h
  obtain ⟨r, hr, h⟩ := bnd h
  have hX : (fun (r : (Int × DT)) => ∀ (o13 : Option (Sum Int Nat)) (o14 : Option (Sum Int Nat)), EvF mtab d k_X4_append 76 [some (.inr (.inr 172)), some (.inl p1), some (.inr (.inr 131)), some (.inl p3), some (.inl p4), some (.inl r.1), dv o13, dv o14] [] (SH L0, r.2) (some (.inl t0.1), (SH L0, t0.2))) r := by
    obtain ⟨l5_12, D15⟩ := r
    intro o13 o14
    show EvF mtab d k_X4_append 76 [some (.inr (.inr 172)), some (.inl p1), some (.inr (.inr 131)), some (.inl p3), some (.inl p4), some (.inl l5_12), dv o13, dv o14] [] (SH L0, D15) (some (.inl t0.1), (SH L0, t0.2))
    cases h
    exact ev_ret 2 (fun _ _ => rfl)
  clear h
  refine ev_go 4 (pc' := 7) (L' := [some (.inr (.inr 172)), some (.inl p1), some (.inr (.inr 131)), some (.inl p3), some (.inl p4), some (.inl p4), some (.inl 0), none]) (S' := []) (σ' := (SH L0, D)) (fun _ _ => rfl) ?_
  refine loop_ind (P := fun s => ∀ (o3 : Option (Sum Int Nat)), EvF mtab d k_X4_append 7 [some (.inr (.inr 172)), some (.inl p1), some (.inr (.inr 131)), some (.inl p3), some (.inl p4), some (.inl s.1), some (.inl s.2.1), dv o3] [] (SH L0, s.2.2) (some (.inl t0.1), (SH L0, t0.2))) (X := fun r => ∀ (o13 : Option (Sum Int Nat)) (o14 : Option (Sum Int Nat)), EvF mtab d k_X4_append 76 [some (.inr (.inr 172)), some (.inl p1), some (.inr (.inr 131)), some (.inl p3), some (.inl p4), some (.inl r.1), dv o13, dv o14] [] (SH L0, r.2) (some (.inl t0.1), (SH L0, t0.2))) hr hX ?_ none
  clear hr hX
  intro s t hb hK0
  obtain ⟨l5_1, l6_2, D4⟩ := s
  intro o3
  show EvF mtab d k_X4_append 7 [some (.inr (.inr 172)), some (.inl p1), some (.inr (.inr 131)), some (.inl p3), some (.inl p4), some (.inl l5_1), some (.inl l6_2), dv o3] [] (SH L0, D4) (some (.inl t0.1), (SH L0, t0.2))
  unfold b_X4_append_7 at hb
  obtain ⟨x5, hx, hb⟩ := bnd hb
  refine ev_bind hx 6 (pc' := 18) (L' := fun x5 => [some (.inr (.inr 172)), some (.inl p1), some (.inr (.inr 131)), some (.inl p3), some (.inl p4), some (.inl l5_1), some (.inl l6_2), dv o3]) (S' := fun x5 => [.inl x5, .inl l6_2]) (σ' := fun x5 => (SH L0, D4)) (fun _ _ => rfl) ?_
  rcases ite_or hb with ⟨hc, hb⟩ | ⟨hc, hb⟩
  · refine ev_ift hc 1 (pc' := 21) (L' := [some (.inr (.inr 172)), some (.inl p1), some (.inr (.inr 131)), some (.inl p3), some (.inl p4), some (.inl l5_1), some (.inl l6_2), dv o3]) (S' := []) (σ' := (SH L0, D4)) (fun _ _ => rfl) ?_
    rcases ite_or hb with ⟨hc, hb⟩ | ⟨hc, hb⟩
    · refine ev_ift hc 3 (pc' := 28) (L' := [some (.inr (.inr 172)), some (.inl p1), some (.inr (.inr 131)), some (.inl p3), some (.inl p4), some (.inl l5_1), some (.inl l6_2), dv o3]) (S' := []) (σ' := (SH L0, D4)) (fun _ _ => rfl) ?_
      obtain ⟨x6, hx, hb⟩ := bnd hb
      refine ev_bind hx 7 (pc' := 41) (L' := fun x6 => [some (.inr (.inr 172)), some (.inl p1), some (.inr (.inr 131)), some (.inl p3), some (.inl p4), some (.inl l5_1), some (.inl l6_2), dv o3]) (S' := fun x6 => [.inl x6, .inr (.inr 132)]) (σ' := fun x6 => (SH L0, D4)) (fun _ _ => rfl) ?_
      obtain ⟨x7, hx, hb⟩ := bnd hb
      refine ev_bind hx 3 (pc' := 45) (L' := fun x7 => [some (.inr (.inr 172)), some (.inl p1), some (.inr (.inr 131)), some (.inl p3), some (.inl p4), some (.inl l5_1), some (.inl l6_2), dv o3]) (S' := fun x7 => [.inl x7]) (σ' := fun x7 => (SH L0, D4)) (fun _ _ => rfl) ?_
      obtain ⟨x8, hx, hb⟩ := bnd hb
      refine ev_bind hx 5 (pc' := 54) (L' := fun x8 => [some (.inr (.inr 172)), some (.inl p1), some (.inr (.inr 131)), some (.inl p3), some (.inl p4), some (.inl l5_1), some (.inl l6_2), some (.inl x7)]) (S' := fun x8 => [.inl x8]) (σ' := fun x8 => (SH L0, D4)) (fun _ _ => rfl) ?_
      obtain ⟨⟨l5_10, D11⟩, hv, hb⟩ := bnd hb
      have hJ : EvF mtab d k_X4_append 70 [some (.inr (.inr 172)), some (.inl p1), some (.inr (.inr 131)), some (.inl p3), some (.inl p4), some (.inl l5_10), some (.inl l6_2), some (.inl x7)] [] (SH L0, D11) (some (.inl t0.1), (SH L0, t0.2)) := by
        cases hb
        exact ev_go 2 (pc' := 7) (L' := [some (.inr (.inr 172)), some (.inl p1), some (.inr (.inr 131)), some (.inl p3), some (.inl p4), some (.inl l5_10), some (.inl (w32 (l6_2 + 1))), some (.inl x7)]) (S' := []) (σ' := (SH L0, D11)) (fun _ _ => rfl) (hK0 (some (.inl x7)))
      clear hb
      rcases ite_or hv with ⟨hc, hv⟩ | ⟨hc, hv⟩
      · refine ev_ift hc 2 (pc' := 58) (L' := [some (.inr (.inr 172)), some (.inl p1), some (.inr (.inr 131)), some (.inl p3), some (.inl p4), some (.inl l5_1), some (.inl l6_2), some (.inl x7)]) (S' := []) (σ' := (SH L0, D4)) (fun _ _ => rfl) ?_
        obtain ⟨D9, hx, hv⟩ := bnd hv
        refine ev_bind hx 5 (pc' := 67) (L' := fun D9 => [some (.inr (.inr 172)), some (.inl p1), some (.inr (.inr 131)), some (.inl p3), some (.inl p4), some (.inl l5_1), some (.inl l6_2), some (.inl x7)]) (S' := fun D9 => []) (σ' := fun D9 => (SH L0, D9)) (fun _ _ => rfl) ?_
        have he0 := Option.some.inj hv
        obtain ⟨ha0, he1⟩ := Prod.mk.inj he0
        clear he0
        subst ha0
        subst he1
        exact ev_go 1 (pc' := 70) (L' := [some (.inr (.inr 172)), some (.inl p1), some (.inr (.inr 131)), some (.inl p3), some (.inl p4), some (.inl (w32 (l5_1 + 1))), some (.inl l6_2), some (.inl x7)]) (S' := []) (σ' := (SH L0, D9)) (fun _ _ => rfl) hJ
      · refine ev_iff hc 2 (pc' := 70) (L' := [some (.inr (.inr 172)), some (.inl p1), some (.inr (.inr 131)), some (.inl p3), some (.inl p4), some (.inl l5_1), some (.inl l6_2), some (.inl x7)]) (S' := []) (σ' := (SH L0, D4)) (fun _ _ => rfl) ?_
        have he0 := Option.some.inj hv
        obtain ⟨ha0, he1⟩ := Prod.mk.inj he0
        clear he0
        subst ha0
        subst he1
        exact hJ
    · refine ev_iff hc 3 (pc' := 76) (L' := [some (.inr (.inr 172)), some (.inl p1), some (.inr (.inr 131)), some (.inl p3), some (.inl p4), some (.inl l5_1), some (.inl l6_2), dv o3]) (S' := []) (σ' := (SH L0, D4)) (fun _ _ => rfl) ?_
      cases hb
      exact hK0 (some (.inl l6_2)) o3
  · refine ev_iff hc 1 (pc' := 76) (L' := [some (.inr (.inr 172)), some (.inl p1), some (.inr (.inr 131)), some (.inl p3), some (.inl p4), some (.inl l5_1), some (.inl l6_2), dv o3]) (S' := []) (σ' := (SH L0, D4)) (fun _ _ => rfl) ?_
    cases hb
    exact hK0 (some (.inl l6_2)) o3
set_option maxRecDepth 100000 in
set_option maxHeartbeats 4000000 in
theorem e_X4_append_177_131 (L0 d : Nat) (hd : 1 ≤ d) {p1 p3 p4 : Int} {D : DT} {t0 : (Int × DT)} (h : m_X4_append 177 p1 p3 p4 D = some t0) : Ret mtab d 46 [.inr (.inr 177), .inl p1, .inr (.inr 131), .inl p3, .inl p4] (SH L0, D) (some (.inl t0.1), (SH L0, t0.2)) := by
  obtain ⟨d, rfl⟩ : ∃ e, d = e + 1 := ⟨d - 1, by omega⟩
  refine Ret.of (code := k_X4_append) (ml := 8) rfl ?_
  show EvF mtab d k_X4_append 0 [some (.inr (.inr 177)), some (.inl p1), some (.inr (.inr 131)), some (.inl p3), some (.inl p4), none, none, none] [] (SH L0, D) (some (.inl t0.1), (SH L0, t0.2))
  unfold m_X4_append at h
  obtain ⟨r, hr, h⟩ := bnd h
  have hX : (fun (r : (Int × DT)) => ∀ (o13 : Option (Sum Int Nat)) (o14 : Option (Sum Int Nat)), EvF mtab d k_X4_append 76 [some (.inr (.inr 177)), some (.inl p1), some (.inr (.inr 131)), some (.inl p3), some (.inl p4), some (.inl r.1), dv o13, dv o14] [] (SH L0, r.2) (some (.inl t0.1), (SH L0, t0.2))) r := by
    obtain ⟨l5_12, D15⟩ := r
    intro o13 o14
    show EvF mtab d k_X4_append 76 [some (.inr (.inr 177)), some (.inl p1), some (.inr (.inr 131)), some (.inl p3), some (.inl p4), some (.inl l5_12), dv o13, dv o14] [] (SH L0, D15) (some (.inl t0.1), (SH L0, t0.2))
    cases h
    exact ev_ret 2 (fun _ _ => rfl)
  clear h
  refine ev_go 4 (pc' := 7) (L' := [some (.inr (.inr 177)), some (.inl p1), some (.inr (.inr 131)), some (.inl p3), some (.inl p4), some (.inl p4), some (.inl 0), none]) (S' := []) (σ' := (SH L0, D)) (fun _ _ => rfl) ?_
  refine loop_ind (P := fun s => ∀ (o3 : Option (Sum Int Nat)), EvF mtab d k_X4_append 7 [some (.inr (.inr 177)), some (.inl p1), some (.inr (.inr 131)), some (.inl p3), some (.inl p4), some (.inl s.1), some (.inl s.2.1), dv o3] [] (SH L0, s.2.2) (some (.inl t0.1), (SH L0, t0.2))) (X := fun r => ∀ (o13 : Option (Sum Int Nat)) (o14 : Option (Sum Int Nat)), EvF mtab d k_X4_append 76 [some (.inr (.inr 177)), some (.inl p1), some (.inr (.inr 131)), some (.inl p3), some (.inl p4), some (.inl r.1), dv o13, dv o14] [] (SH L0, r.2) (some (.inl t0.1), (SH L0, t0.2))) hr hX ?_ none
  clear hr hX
  intro s t hb hK0
  obtain ⟨l5_1, l6_2, D4⟩ := s
  intro o3
  show EvF mtab d k_X4_append 7 [some (.inr (.inr 177)), some (.inl p1), some (.inr (.inr 131)), some (.inl p3), some (.inl p4), some (.inl l5_1), some (.inl l6_2), dv o3] [] (SH L0, D4) (some (.inl t0.1), (SH L0, t0.2))
  unfold b_X4_append_7 at hb
  obtain ⟨x5, hx, hb⟩ := bnd hb
  refine ev_bind hx 6 (pc' := 18) (L' := fun x5 => [some (.inr (.inr 177)), some (.inl p1), some (.inr (.inr 131)), some (.inl p3), some (.inl p4), some (.inl l5_1), some (.inl l6_2), dv o3]) (S' := fun x5 => [.inl x5, .inl l6_2]) (σ' := fun x5 => (SH L0, D4)) (fun _ _ => rfl) ?_
  rcases ite_or hb with ⟨hc, hb⟩ | ⟨hc, hb⟩
  · refine ev_ift hc 1 (pc' := 21) (L' := [some (.inr (.inr 177)), some (.inl p1), some (.inr (.inr 131)), some (.inl p3), some (.inl p4), some (.inl l5_1), some (.inl l6_2), dv o3]) (S' := []) (σ' := (SH L0, D4)) (fun _ _ => rfl) ?_
    rcases ite_or hb with ⟨hc, hb⟩ | ⟨hc, hb⟩
    · refine ev_ift hc 3 (pc' := 28) (L' := [some (.inr (.inr 177)), some (.inl p1), some (.inr (.inr 131)), some (.inl p3), some (.inl p4), some (.inl l5_1), some (.inl l6_2), dv o3]) (S' := []) (σ' := (SH L0, D4)) (fun _ _ => rfl) ?_
      obtain ⟨x6, hx, hb⟩ := bnd hb
      refine ev_bind hx 7 (pc' := 41) (L' := fun x6 => [some (.inr (.inr 177)), some (.inl p1), some (.inr (.inr 131)), some (.inl p3), some (.inl p4), some (.inl l5_1), some (.inl l6_2), dv o3]) (S' := fun x6 => [.inl x6, .inr (.inr 132)]) (σ' := fun x6 => (SH L0, D4)) (fun _ _ => rfl) ?_
      obtain ⟨x7, hx, hb⟩ := bnd hb
      refine ev_bind hx 3 (pc' := 45) (L' := fun x7 => [some (.inr (.inr 177)), some (.inl p1), some (.inr (.inr 131)), some (.inl p3), some (.inl p4), some (.inl l5_1), some (.inl l6_2), dv o3]) (S' := fun x7 => [.inl x7]) (σ' := fun x7 => (SH L0, D4)) (fun _ _ => rfl) ?_
      obtain ⟨x8, hx, hb⟩ := bnd hb
      refine ev_bind hx 5 (pc' := 54) (L' := fun x8 => [some (.inr (.inr 177)), some (.inl p1), some (.inr (.inr 131)), some (.inl p3), some (.inl p4), some (.inl l5_1), some (.inl l6_2), some (.inl x7)]) (S' := fun x8 => [.inl x8]) (σ' := fun x8 => (SH L0, D4)) (fun _ _ => rfl) ?_
      obtain ⟨⟨l5_10, D11⟩, hv, hb⟩ := bnd hb
      have hJ : EvF mtab d k_X4_append 70 [some (.inr (.inr 177)), some (.inl p1), some (.inr (.inr 131)), some (.inl p3), some (.inl p4), some (.inl l5_10), some (.inl l6_2), some (.inl x7)] [] (SH L0, D11) (some (.inl t0.1), (SH L0, t0.2)) := by
        cases hb
        exact ev_go 2 (pc' := 7) (L' := [some (.inr (.inr 177)), some (.inl p1), some (.inr (.inr 131)), some (.inl p3), some (.inl p4), some (.inl l5_10), some (.inl (w32 (l6_2 + 1))), some (.inl x7)]) (S' := []) (σ' := (SH L0, D11)) (fun _ _ => rfl) (hK0 (some (.inl x7)))
      clear hb
      rcases ite_or hv with ⟨hc, hv⟩ | ⟨hc, hv⟩
      · refine ev_ift hc 2 (pc' := 58) (L' := [some (.inr (.inr 177)), some (.inl p1), some (.inr (.inr 131)), some (.inl p3), some (.inl p4), some (.inl l5_1), some (.inl l6_2), some (.inl x7)]) (S' := []) (σ' := (SH L0, D4)) (fun _ _ => rfl) ?_
        obtain ⟨D9, hx, hv⟩ := bnd hv
        refine ev_bind hx 5 (pc' := 67) (L' := fun D9 => [some (.inr (.inr 177)), some (.inl p1), some (.inr (.inr 131)), some (.inl p3), some (.inl p4), some (.inl l5_1), some (.inl l6_2), some (.inl x7)]) (S' := fun D9 => []) (σ' := fun D9 => (SH L0, D9)) (fun _ _ => rfl) ?_
        have he0 := Option.some.inj hv
        obtain ⟨ha0, he1⟩ := Prod.mk.inj he0
        clear he0
        subst ha0
        subst he1
        exact ev_go 1 (pc' := 70) (L' := [some (.inr (.inr 177)), some (.inl p1), some (.inr (.inr 131)), some (.inl p3), some (.inl p4), some (.inl (w32 (l5_1 + 1))), some (.inl l6_2), some (.inl x7)]) (S' := []) (σ' := (SH L0, D9)) (fun _ _ => rfl) hJ
      · refine ev_iff hc 2 (pc' := 70) (L' := [some (.inr (.inr 177)), some (.inl p1), some (.inr (.inr 131)), some (.inl p3), some (.inl p4), some (.inl l5_1), some (.inl l6_2), some (.inl x7)]) (S' := []) (σ' := (SH L0, D4)) (fun _ _ => rfl) ?_
        have he0 := Option.some.inj hv
        obtain ⟨ha0, he1⟩ := Prod.mk.inj he0
        clear he0
        subst ha0
        subst he1
        exact hJ
    · refine ev_iff hc 3 (pc' := 76) (L' := [some (.inr (.inr 177)), some (.inl p1), some (.inr (.inr 131)), some (.inl p3), some (.inl p4), some (.inl l5_1), some (.inl l6_2), dv o3]) (S' := []) (σ' := (SH L0, D4)) (fun _ _ => rfl) ?_
      cases hb
      exact hK0 (some (.inl l6_2)) o3
  · refine ev_iff hc 1 (pc' := 76) (L' := [some (.inr (.inr 177)), some (.inl p1), some (.inr (.inr 131)), some (.inl p3), some (.inl p4), some (.inl l5_1), some (.inl l6_2), dv o3]) (S' := []) (σ' := (SH L0, D4)) (fun _ _ => rfl) ?_
    cases hb
    exact hK0 (some (.inl l6_2)) o3
set_option maxRecDepth 100000 in
set_option maxHeartbeats 4000000 in
theorem e_X4_byFunctions_167_1_131 (L0 d : Nat) (hd : 5 ≤ d) {D : DT} {t0 : DT} (h : m_X4_byFunctions 167 1 D = some t0) : Ret mtab d 45 [.inr (.inr 167), .inr (.inr 1), .inr (.inr 131)] (SH L0, D) (none, (SH L0, t0)) := by
  obtain ⟨d, rfl⟩ : ∃ e, d = e + 1 := ⟨d - 1, by omega⟩
  refine Ret.of (code := k_X4_byFunctions) (ml := 5) rfl ?_
  show EvF mtab d k_X4_byFunctions 0 [some (.inr (.inr 167)), some (.inr (.inr 1)), some (.inr (.inr 131)), none, none] [] (SH L0, D) (none, (SH L0, t0))
  unfold m_X4_byFunctions at h
  obtain ⟨r, hr, h⟩ := bnd h
  have hX : (fun (r : (Int × DT)) => ∀ (o8 : Option (Sum Int Nat)), EvF mtab d k_X4_byFunctions 35 [some (.inr (.inr 167)), some (.inr (.inr 1)), some (.inr (.inr 131)), some (.inl r.1), dv o8] [] (SH L0, r.2) (none, (SH L0, t0))) r := by
    obtain ⟨l3_7, D9⟩ := r
    intro o8
    show EvF mtab d k_X4_byFunctions 35 [some (.inr (.inr 167)), some (.inr (.inr 1)), some (.inr (.inr 131)), some (.inl l3_7), dv o8] [] (SH L0, D9) (none, (SH L0, t0))
    obtain ⟨r, hr, h⟩ := bnd h
    have hX : (fun (r : DT) => ∀ (o16 : Option (Sum Int Nat)) (o17 : Option (Sum Int Nat)), EvF mtab d k_X4_byFunctions 68 [some (.inr (.inr 167)), some (.inr (.inr 1)), some (.inr (.inr 131)), dv o16, dv o17] [] (SH L0, r) (none, (SH L0, t0))) r := by
      obtain ⟨D18, hre⟩ : ∃ q, q = r := ⟨r, rfl⟩
      subst hre
      intro o16 o17
      show EvF mtab d k_X4_byFunctions 68 [some (.inr (.inr 167)), some (.inr (.inr 1)), some (.inr (.inr 131)), dv o16, dv o17] [] (SH L0, D18) (none, (SH L0, t0))
      obtain ⟨D19, hx, h⟩ := bnd h
      refine ev_call (e_X4_measure_167 L0 d (by omega) hx) 2 (pc' := 72) (L' := [some (.inr (.inr 167)), some (.inr (.inr 1)), some (.inr (.inr 131)), dv o16, dv o17]) (S' := []) (fun _ _ => rfl) ?_
      cases h
      exact ev_ret 1 (fun _ _ => rfl)
    clear h
    refine ev_go 2 (pc' := 38) (L' := [some (.inr (.inr 167)), some (.inr (.inr 1)), some (.inr (.inr 131)), some (.inl l3_7), some (.inl 0)]) (S' := []) (σ' := (SH L0, D9)) (fun _ _ => rfl) ?_
    refine loop_ind (P := fun s => EvF mtab d k_X4_byFunctions 38 [some (.inr (.inr 167)), some (.inr (.inr 1)), some (.inr (.inr 131)), some (.inl s.1), some (.inl s.2.1)] [] (SH L0, s.2.2) (none, (SH L0, t0))) (X := fun r => ∀ (o16 : Option (Sum Int Nat)) (o17 : Option (Sum Int Nat)), EvF mtab d k_X4_byFunctions 68 [some (.inr (.inr 167)), some (.inr (.inr 1)), some (.inr (.inr 131)), dv o16, dv o17] [] (SH L0, r) (none, (SH L0, t0))) hr hX ?_
    clear hr hX
    intro s t hb hK0
    obtain ⟨l3_10, l4_11, D12⟩ := s
    show EvF mtab d k_X4_byFunctions 38 [some (.inr (.inr 167)), some (.inr (.inr 1)), some (.inr (.inr 131)), some (.inl l3_10), some (.inl l4_11)] [] (SH L0, D12) (none, (SH L0, t0))
    unfold b_X4_byFunctions_38 at hb
    rcases ite_or hb with ⟨hc, hb⟩ | ⟨hc, hb⟩
    · refine ev_ift hc 5 (pc' := 50) (L' := [some (.inr (.inr 167)), some (.inr (.inr 1)), some (.inr (.inr 131)), some (.inl l3_10), some (.inl l4_11)]) (S' := []) (σ' := (SH L0, D12)) (fun _ _ => rfl) ?_
      obtain ⟨x13, hx, hb⟩ := bnd hb
      refine ev_bind hx 4 (pc' := 55) (L' := fun x13 => [some (.inr (.inr 167)), some (.inr (.inr 1)), some (.inr (.inr 131)), some (.inl l3_10), some (.inl l4_11)]) (S' := fun x13 => [.inl x13, .inr (.inr 167)]) (σ' := fun x13 => (SH L0, D12)) (fun _ _ => rfl) ?_
      obtain ⟨⟨x14, D15⟩, hx, hb⟩ := bnd hb
      refine ev_call (e_X4_append_167_131 L0 d (by omega) hx) 4 (pc' := 61) (L' := [some (.inr (.inr 167)), some (.inr (.inr 1)), some (.inr (.inr 131)), some (.inl l3_10), some (.inl l4_11)]) (S' := []) (fun _ _ => rfl) ?_
      cases hb
      exact ev_go 3 (pc' := 38) (L' := [some (.inr (.inr 167)), some (.inr (.inr 1)), some (.inr (.inr 131)), some (.inl x14), some (.inl (w32 (l4_11 + 1)))]) (S' := []) (σ' := (SH L0, D15)) (fun _ _ => rfl) hK0
    · refine ev_iff hc 5 (pc' := 68) (L' := [some (.inr (.inr 167)), some (.inr (.inr 1)), some (.inr (.inr 131)), some (.inl l3_10), some (.inl l4_11)]) (S' := []) (σ' := (SH L0, D12)) (fun _ _ => rfl) ?_
      cases hb
      exact hK0 (some (.inl l3_10)) (some (.inl l4_11))
  clear h
  refine ev_go 4 (pc' := 5) (L' := [some (.inr (.inr 167)), some (.inr (.inr 1)), some (.inr (.inr 131)), some (.inl 0), some (.inl 0)]) (S' := []) (σ' := (SH L0, D)) (fun _ _ => rfl) ?_
  refine loop_ind (P := fun s => EvF mtab d k_X4_byFunctions 5 [some (.inr (.inr 167)), some (.inr (.inr 1)), some (.inr (.inr 131)), some (.inl s.1), some (.inl s.2.1)] [] (SH L0, s.2.2) (none, (SH L0, t0))) (X := fun r => ∀ (o8 : Option (Sum Int Nat)), EvF mtab d k_X4_byFunctions 35 [some (.inr (.inr 167)), some (.inr (.inr 1)), some (.inr (.inr 131)), some (.inl r.1), dv o8] [] (SH L0, r.2) (none, (SH L0, t0))) hr hX ?_
  clear hr hX
  intro s t hb hK0
  obtain ⟨l3_1, l4_2, D3⟩ := s
  show EvF mtab d k_X4_byFunctions 5 [some (.inr (.inr 167)), some (.inr (.inr 1)), some (.inr (.inr 131)), some (.inl l3_1), some (.inl l4_2)] [] (SH L0, D3) (none, (SH L0, t0))
  unfold b_X4_byFunctions_5 at hb
  rcases ite_or hb with ⟨hc, hb⟩ | ⟨hc, hb⟩
  · refine ev_ift hc 5 (pc' := 17) (L' := [some (.inr (.inr 167)), some (.inr (.inr 1)), some (.inr (.inr 131)), some (.inl l3_1), some (.inl l4_2)]) (S' := []) (σ' := (SH L0, D3)) (fun _ _ => rfl) ?_
    obtain ⟨x4, hx, hb⟩ := bnd hb
    refine ev_bind hx 4 (pc' := 22) (L' := fun x4 => [some (.inr (.inr 167)), some (.inr (.inr 1)), some (.inr (.inr 131)), some (.inl l3_1), some (.inl l4_2)]) (S' := fun x4 => [.inl x4, .inr (.inr 167)]) (σ' := fun x4 => (SH L0, D3)) (fun _ _ => rfl) ?_
    obtain ⟨⟨x5, D6⟩, hx, hb⟩ := bnd hb
    refine ev_call (e_X4_append_167_131 L0 d (by omega) hx) 4 (pc' := 28) (L' := [some (.inr (.inr 167)), some (.inr (.inr 1)), some (.inr (.inr 131)), some (.inl l3_1), some (.inl l4_2)]) (S' := []) (fun _ _ => rfl) ?_
    cases hb
    exact ev_go 3 (pc' := 5) (L' := [some (.inr (.inr 167)), some (.inr (.inr 1)), some (.inr (.inr 131)), some (.inl x5), some (.inl (w32 (l4_2 + 1)))]) (S' := []) (σ' := (SH L0, D6)) (fun _ _ => rfl) hK0
  · refine ev_iff hc 5 (pc' := 35) (L' := [some (.inr (.inr 167)), some (.inr (.inr 1)), some (.inr (.inr 131)), some (.inl l3_1), some (.inl l4_2)]) (S' := []) (σ' := (SH L0, D3)) (fun _ _ => rfl) ?_
    cases hb
    exact hK0 (some (.inl l4_2))
set_option maxRecDepth 100000 in
set_option maxHeartbeats 4000000 in
theorem e_X4_byFunctions_172_142_131 (L0 d : Nat) (hd : 5 ≤ d) {D : DT} {t0 : DT} (h : m_X4_byFunctions 172 142 D = some t0) : Ret mtab d 45 [.inr (.inr 172), .inr (.inr 142), .inr (.inr 131)] (SH L0, D) (none, (SH L0, t0)) := by
  obtain ⟨d, rfl⟩ : ∃ e, d = e + 1 := ⟨d - 1, by omega⟩
  refine Ret.of (code := k_X4_byFunctions) (ml := 5) rfl ?_
  show EvF mtab d k_X4_byFunctions 0 [some (.inr (.inr 172)), some (.inr (.inr 142)), some (.inr (.inr 131)), none, none] [] (SH L0, D) (none, (SH L0, t0))
  unfold m_X4_byFunctions at h
  obtain ⟨r, hr, h⟩ := bnd h
  have hX : (fun (r : (Int × DT)) => ∀ (o8 : Option (Sum Int Nat)), EvF mtab d k_X4_byFunctions 35 [some (.inr (.inr 172)), some (.inr (.inr 142)), some (.inr (.inr 131)), some (.inl r.1), dv o8] [] (SH L0, r.2) (none, (SH L0, t0))) r := by
    obtain ⟨l3_7, D9⟩ := r
    intro o8
    show EvF mtab d k_X4_byFunctions 35 [some (.inr (.inr 172)), some (.inr (.inr 142)), some (.inr (.inr 131)), some (.inl l3_7), dv o8] [] (SH L0, D9) (none, (SH L0, t0))
    obtain ⟨r, hr, h⟩ := bnd h
    have hX : (fun (r : DT) => ∀ (o16 : Option (Sum Int Nat)) (o17 : Option (Sum Int Nat)), EvF mtab d k_X4_byFunctions 68 [some (.inr (.inr 172)), some (.inr (.inr 142)), some (.inr (.inr 131)), dv o16, dv o17] [] (SH L0, r) (none, (SH L0, t0))) r := by
      obtain ⟨D18, hre⟩ : ∃ q, q = r := ⟨r, rfl⟩
      subst hre
      intro o16 o17
      show EvF mtab d k_X4_byFunctions 68 [some (.inr (.inr 172)), some (.inr (.inr 142)), some (.inr (.inr 131)), dv o16, dv o17] [] (SH L0, D18) (none, (SH L0, t0))
      obtain ⟨D19, hx, h⟩ := bnd h
      refine ev_call (e_X4_measure_172 L0 d (by omega) hx) 2 (pc' := 72) (L' := [some (.inr (.inr 172)), some (.inr (.inr 142)), some (.inr (.inr 131)), dv o16, dv o17]) (S' := []) (fun _ _ => rfl) ?_
      cases h
      exact ev_ret 1 (fun _ _ => rfl)
    clear h
    refine ev_go 2 (pc' := 38) (L' := [some (.inr (.inr 172)), some (.inr (.inr 142)), some (.inr (.inr 131)), some (.inl l3_7), some (.inl 0)]) (S' := []) (σ' := (SH L0, D9)) (fun _ _ => rfl) ?_
    refine loop_ind (P := fun s => EvF mtab d k_X4_byFunctions 38 [some (.inr (.inr 172)), some (.inr (.inr 142)), some (.inr (.inr 131)), some (.inl s.1), some (.inl s.2.1)] [] (SH L0, s.2.2) (none, (SH L0, t0))) (X := fun r => ∀ (o16 : Option (Sum Int Nat)) (o17 : Option (Sum Int Nat)), EvF mtab d k_X4_byFunctions 68 [some (.inr (.inr 172)), some (.inr (.inr 142)), some (.inr (.inr 131)), dv o16, dv o17] [] (SH L0, r) (none, (SH L0, t0))) hr hX ?_
    clear hr hX
    intro s t hb hK0
    obtain ⟨l3_10, l4_11, D12⟩ := s
    show EvF mtab d k_X4_byFunctions 38 [some (.inr (.inr 172)), some (.inr (.inr 142)), some (.inr (.inr 131)), some (.inl l3_10), some (.inl l4_11)] [] (SH L0, D12) (none, (SH L0, t0))
    unfold b_X4_byFunctions_38 at hb
    rcases ite_or hb with ⟨hc, hb⟩ | ⟨hc, hb⟩
    · refine ev_ift hc 5 (pc' := 50) (L' := [some (.inr (.inr 172)), some (.inr (.inr 142)), some (.inr (.inr 131)), some (.inl l3_10), some (.inl l4_11)]) (S' := []) (σ' := (SH L0, D12)) (fun _ _ => rfl) ?_
      obtain ⟨x13, hx, hb⟩ := bnd hb
      refine ev_bind hx 4 (pc' := 55) (L' := fun x13 => [some (.inr (.inr 172)), some (.inr (.inr 142)), some (.inr (.inr 131)), some (.inl l3_10), some (.inl l4_11)]) (S' := fun x13 => [.inl x13, .inr (.inr 172)]) (σ' := fun x13 => (SH L0, D12)) (fun _ _ => rfl) ?_
      obtain ⟨⟨x14, D15⟩, hx, hb⟩ := bnd hb
      refine ev_call (e_X4_append_172_131 L0 d (by omega) hx) 4 (pc' := 61) (L' := [some (.inr (.inr 172)), some (.inr (.inr 142)), some (.inr (.inr 131)), some (.inl l3_10), some (.inl l4_11)]) (S' := []) (fun _ _ => rfl) ?_
      cases hb
      exact ev_go 3 (pc' := 38) (L' := [some (.inr (.inr 172)), some (.inr (.inr 142)), some (.inr (.inr 131)), some (.inl x14), some (.inl (w32 (l4_11 + 1)))]) (S' := []) (σ' := (SH L0, D15)) (fun _ _ => rfl) hK0
    · refine ev_iff hc 5 (pc' := 68) (L' := [some (.inr (.inr 172)), some (.inr (.inr 142)), some (.inr (.inr 131)), some (.inl l3_10), some (.inl l4_11)]) (S' := []) (σ' := (SH L0, D12)) (fun _ _ => rfl) ?_
      cases hb
      exact hK0 (some (.inl l3_10)) (some (.inl l4_11))
  clear h
  refine ev_go 4 (pc' := 5) (L' := [some (.inr (.inr 172)), some (.inr (.inr 142)), some (.inr (.inr 131)), some (.inl 0), some (.inl 0)]) (S' := []) (σ' := (SH L0, D)) (fun _ _ => rfl) ?_
  refine loop_ind (P := fun s => EvF mtab d k_X4_byFunctions 5 [some (.inr (.inr 172)), some (.inr (.inr 142)), some (.inr (.inr 131)), some (.inl s.1), some (.inl s.2.1)] [] (SH L0, s.2.2) (none, (SH L0, t0))) (X := fun r => ∀ (o8 : Option (Sum Int Nat)), EvF mtab d k_X4_byFunctions 35 [some (.inr (.inr 172)), some (.inr (.inr 142)), some (.inr (.inr 131)), some (.inl r.1), dv o8] [] (SH L0, r.2) (none, (SH L0, t0))) hr hX ?_
  clear hr hX
  intro s t hb hK0
  obtain ⟨l3_1, l4_2, D3⟩ := s
  show EvF mtab d k_X4_byFunctions 5 [some (.inr (.inr 172)), some (.inr (.inr 142)), some (.inr (.inr 131)), some (.inl l3_1), some (.inl l4_2)] [] (SH L0, D3) (none, (SH L0, t0))
  unfold b_X4_byFunctions_5 at hb
  rcases ite_or hb with ⟨hc, hb⟩ | ⟨hc, hb⟩
  · refine ev_ift hc 5 (pc' := 17) (L' := [some (.inr (.inr 172)), some (.inr (.inr 142)), some (.inr (.inr 131)), some (.inl l3_1), some (.inl l4_2)]) (S' := []) (σ' := (SH L0, D3)) (fun _ _ => rfl) ?_
    obtain ⟨x4, hx, hb⟩ := bnd hb
    refine ev_bind hx 4 (pc' := 22) (L' := fun x4 => [some (.inr (.inr 172)), some (.inr (.inr 142)), some (.inr (.inr 131)), some (.inl l3_1), some (.inl l4_2)]) (S' := fun x4 => [.inl x4, .inr (.inr 172)]) (σ' := fun x4 => (SH L0, D3)) (fun _ _ => rfl) ?_
    obtain ⟨⟨x5, D6⟩, hx, hb⟩ := bnd hb
    refine ev_call (e_X4_append_172_131 L0 d (by omega) hx) 4 (pc' := 28) (L' := [some (.inr (.inr 172)), some (.inr (.inr 142)), some (.inr (.inr 131)), some (.inl l3_1), some (.inl l4_2)]) (S' := []) (fun _ _ => rfl) ?_
    cases hb
    exact ev_go 3 (pc' := 5) (L' := [some (.inr (.inr 172)), some (.inr (.inr 142)), some (.inr (.inr 131)), some (.inl x5), some (.inl (w32 (l4_2 + 1)))]) (S' := []) (σ' := (SH L0, D6)) (fun _ _ => rfl) hK0
  · refine ev_iff hc 5 (pc' := 35) (L' := [some (.inr (.inr 172)), some (.inr (.inr 142)), some (.inr (.inr 131)), some (.inl l3_1), some (.inl l4_2)]) (S' := []) (σ' := (SH L0, D3)) (fun _ _ => rfl) ?_
    cases hb
    exact hK0 (some (.inl l4_2))
set_option maxRecDepth 100000 in
set_option maxHeartbeats 4000000 in
theorem e_X4_byFunctions_177_143_131 (L0 d : Nat) (hd : 5 ≤ d) {D : DT} {t0 : DT} (h : m_X4_byFunctions 177 143 D = some t0) : Ret mtab d 45 [.inr (.inr 177), .inr (.inr 143), .inr (.inr 131)] (SH L0, D) (none, (SH L0, t0)) := by
  obtain ⟨d, rfl⟩ : ∃ e, d = e + 1 := ⟨d - 1, by omega⟩
  refine Ret.of (code := k_X4_byFunctions) (ml := 5) rfl ?_
  show EvF mtab d k_X4_byFunctions 0 [some (.inr (.inr 177)), some (.inr (.inr 143)), some (.inr (.inr 131)), none, none] [] (SH L0, D) (none, (SH L0, t0))
  unfold m_X4_byFunctions at h
  obtain ⟨r, hr, h⟩ := bnd h
  have hX : (fun (r : (Int × DT)) => ∀ (o8 : Option (Sum Int Nat)), EvF mtab d k_X4_byFunctions 35 [some (.inr (.inr 177)), some (.inr (.inr 143)), some (.inr (.inr 131)), some (.inl r.1), dv o8] [] (SH L0, r.2) (none, (SH L0, t0))) r := by
    obtain ⟨l3_7, D9⟩ := r
    intro o8
    show EvF mtab d k_X4_byFunctions 35 [some (.inr (.inr 177)), some (.inr (.inr 143)), some (.inr (.inr 131)), some (.inl l3_7), dv o8] [] (SH L0, D9) (none, (SH L0, t0))
    obtain ⟨r, hr, h⟩ := bnd h
    have hX : (fun (r : DT) => ∀ (o16 : Option (Sum Int Nat)) (o17 : Option (Sum Int Nat)), EvF mtab d k_X4_byFunctions 68 [some (.inr (.inr 177)), some (.inr (.inr 143)), some (.inr (.inr 131)), dv o16, dv o17] [] (SH L0, r) (none, (SH L0, t0))) r := by
      obtain ⟨D18, hre⟩ : ∃ q, q = r := ⟨r, rfl⟩
      subst hre
      intro o16 o17
      show EvF mtab d k_X4_byFunctions 68 [some (.inr (.inr 177)), some (.inr (.inr 143)), some (.inr (.inr 131)), dv o16, dv o17] [] (SH L0, D18) (none, (SH L0, t0))
      obtain ⟨D19, hx, h⟩ := bnd h
      refine ev_call (e_X4_measure_177 L0 d (by omega) hx) 2 (pc' := 72) (L' := [some (.inr (.inr 177)), some (.inr (.inr 143)), some (.inr (.inr 131)), dv o16, dv o17]) (S' := []) (fun _ _ => rfl) ?_
      cases h
      exact ev_ret 1 (fun _ _ => rfl)
    clear h
    refine ev_go 2 (pc' := 38) (L' := [some (.inr (.inr 177)), some (.inr (.inr 143)), some (.inr (.inr 131)), some (.inl l3_7), some (.inl 0)]) (S' := []) (σ' := (SH L0, D9)) (fun _ _ => rfl) ?_
    refine loop_ind (P := fun s => EvF mtab d k_X4_byFunctions 38 [some (.inr (.inr 177)), some (.inr (.inr 143)), some (.inr (.inr 131)), some (.inl s.1), some (.inl s.2.1)] [] (SH L0, s.2.2) (none, (SH L0, t0))) (X := fun r => ∀ (o16 : Option (Sum Int Nat)) (o17 : Option (Sum Int Nat)), EvF mtab d k_X4_byFunctions 68 [some (.inr (.inr 177)), some (.inr (.inr 143)), some (.inr (.inr 131)), dv o16, dv o17] [] (SH L0, r) (none, (SH L0, t0))) hr hX ?_
    clear hr hX
    intro s t hb hK0
    obtain ⟨l3_10, l4_11, D12⟩ := s
    show EvF mtab d k_X4_byFunctions 38 [some (.inr (.inr 177)), some (.inr (.inr 143)), some (.inr (.inr 131)), some (.inl l3_10), some (.inl l4_11)] [] (SH L0, D12) (none, (SH L0, t0))
    unfold b_X4_byFunctions_38 at hb
    rcases ite_or hb with ⟨hc, hb⟩ | ⟨hc, hb⟩
    · refine ev_ift hc 5 (pc' := 50) (L' := [some (.inr (.inr 177)), some (.inr (.inr 143)), some (.inr (.inr 131)), some (.inl l3_10), some (.inl l4_11)]) (S' := []) (σ' := (SH L0, D12)) (fun _ _ => rfl) ?_
      obtain ⟨x13, hx, hb⟩ := bnd hb
      refine ev_bind hx 4 (pc' := 55) (L' := fun x13 => [some (.inr (.inr 177)), some (.inr (.inr 143)), some (.inr (.inr 131)), some (.inl l3_10), some (.inl l4_11)]) (S' := fun x13 => [.inl x13, .inr (.inr 177)]) (σ' := fun x13 => (SH L0, D12)) (fun _ _ => rfl) ?_
      obtain ⟨⟨x14, D15⟩, hx, hb⟩ := bnd hb
      refine ev_call (e_X4_append_177_131 L0 d (by omega) hx) 4 (pc' := 61) (L' := [some (.inr (.inr 177)), some (.inr (.inr 143)), some (.inr (.inr 131)), some (.inl l3_10), some (.inl l4_11)]) (S' := []) (fun _ _ => rfl) ?_
      cases hb
      exact ev_go 3 (pc' := 38) (L' := [some (.inr (.inr 177)), some (.inr (.inr 143)), some (.inr (.inr 131)), some (.inl x14), some (.inl (w32 (l4_11 + 1)))]) (S' := []) (σ' := (SH L0, D15)) (fun _ _ => rfl) hK0
    · refine ev_iff hc 5 (pc' := 68) (L' := [some (.inr (.inr 177)), some (.inr (.inr 143)), some (.inr (.inr 131)), some (.inl l3_10), some (.inl l4_11)]) (S' := []) (σ' := (SH L0, D12)) (fun _ _ => rfl) ?_
      cases hb
      exact hK0 (some (.inl l3_10)) (some (.inl l4_11))
  clear h
  refine ev_go 4 (pc' := 5) (L' := [some (.inr (.inr 177)), some (.inr (.inr 143)), some (.inr (.inr 131)), some (.inl 0), some (.inl 0)]) (S' := []) (σ' := (SH L0, D)) (fun _ _ => rfl) ?_
  refine loop_ind (P := fun s => EvF mtab d k_X4_byFunctions 5 [some (.inr (.inr 177)), some (.inr (.inr 143)), some (.inr (.inr 131)), some (.inl s.1), some (.inl s.2.1)] [] (SH L0, s.2.2) (none, (SH L0, t0))) (X := fun r => ∀ (o8 : Option (Sum Int Nat)), EvF mtab d k_X4_byFunctions 35 [some (.inr (.inr 177)), some (.inr (.inr 143)), some (.inr (.inr 131)), some (.inl r.1), dv o8] [] (SH L0, r.2) (none, (SH L0, t0))) hr hX ?_
  clear hr hX
  intro s t hb hK0
  obtain ⟨l3_1, l4_2, D3⟩ := s
  show EvF mtab d k_X4_byFunctions 5 [some (.inr (.inr 177)), some (.inr (.inr 143)), some (.inr (.inr 131)), some (.inl l3_1), some (.inl l4_2)] [] (SH L0, D3) (none, (SH L0, t0))
  unfold b_X4_byFunctions_5 at hb
  rcases ite_or hb with ⟨hc, hb⟩ | ⟨hc, hb⟩
  · refine ev_ift hc 5 (pc' := 17) (L' := [some (.inr (.inr 177)), some (.inr (.inr 143)), some (.inr (.inr 131)), some (.inl l3_1), some (.inl l4_2)]) (S' := []) (σ' := (SH L0, D3)) (fun _ _ => rfl) ?_
    obtain ⟨x4, hx, hb⟩ := bnd hb
    refine ev_bind hx 4 (pc' := 22) (L' := fun x4 => [some (.inr (.inr 177)), some (.inr (.inr 143)), some (.inr (.inr 131)), some (.inl l3_1), some (.inl l4_2)]) (S' := fun x4 => [.inl x4, .inr (.inr 177)]) (σ' := fun x4 => (SH L0, D3)) (fun _ _ => rfl) ?_
    obtain ⟨⟨x5, D6⟩, hx, hb⟩ := bnd hb
    refine ev_call (e_X4_append_177_131 L0 d (by omega) hx) 4 (pc' := 28) (L' := [some (.inr (.inr 177)), some (.inr (.inr 143)), some (.inr (.inr 131)), some (.inl l3_1), some (.inl l4_2)]) (S' := []) (fun _ _ => rfl) ?_
    cases hb
    exact ev_go 3 (pc' := 5) (L' := [some (.inr (.inr 177)), some (.inr (.inr 143)), some (.inr (.inr 131)), some (.inl x5), some (.inl (w32 (l4_2 + 1)))]) (S' := []) (σ' := (SH L0, D6)) (fun _ _ => rfl) hK0
  · refine ev_iff hc 5 (pc' := 35) (L' := [some (.inr (.inr 177)), some (.inr (.inr 143)), some (.inr (.inr 131)), some (.inl l3_1), some (.inl l4_2)]) (S' := []) (σ' := (SH L0, D3)) (fun _ _ => rfl) ?_
    cases hb
    exact hK0 (some (.inl l4_2))
set_option maxRecDepth 100000 in
set_option maxHeartbeats 4000000 in
theorem e_X4_isLine_162_17 (L0 d : Nat) (hd : 1 ≤ d) {D : DT} {t0 : Int} (h : m_X4_isLine 162 D = some t0) : Ret mtab d 50 [.inr (.inr 162), .inr (.inr 17)] (SH L0, D) (some (.inl t0), (SH L0, D)) := by
  obtain ⟨d, rfl⟩ : ∃ e, d = e + 1 := ⟨d - 1, by omega⟩
  refine Ret.of (code := k_X4_isLine) (ml := 3) rfl ?_
  show EvF mtab d k_X4_isLine 0 [some (.inr (.inr 162)), some (.inr (.inr 17)), none] [] (SH L0, D) (some (.inl t0), (SH L0, D))
  unfold m_X4_isLine at h
  obtain ⟨r, hr, h⟩ := bnd h
  have hX : (fun (r : (Unit ⊕ Unit)) => match r with | .inl r => (∀ (o4 : Option (Sum Int Nat)), EvF mtab d k_X4_isLine 25 [some (.inr (.inr 162)), some (.inr (.inr 17)), dv o4] [] (SH L0, D) (some (.inl t0), (SH L0, D))) | .inr r => (∀ (o5 : Option (Sum Int Nat)), EvF mtab d k_X4_isLine 33 [some (.inr (.inr 162)), some (.inr (.inr 17)), dv o5] [] (SH L0, D) (some (.inl t0), (SH L0, D)))) r := by
    rcases r with r | r
    · skip
      intro o4
      show EvF mtab d k_X4_isLine 25 [some (.inr (.inr 162)), some (.inr (.inr 17)), dv o4] [] (SH L0, D) (some (.inl t0), (SH L0, D))
      cases h
      exact ev_ret 2 (fun _ _ => rfl)
    intro o5
    show EvF mtab d k_X4_isLine 33 [some (.inr (.inr 162)), some (.inr (.inr 17)), dv o5] [] (SH L0, D) (some (.inl t0), (SH L0, D))
    cases h
    exact ev_ret 2 (fun _ _ => rfl)
  clear h
  refine ev_go 2 (pc' := 2) (L' := [some (.inr (.inr 162)), some (.inr (.inr 17)), some (.inl 0)]) (S' := []) (σ' := (SH L0, D)) (fun _ _ => rfl) ?_
  refine loop_ind (P := fun s => EvF mtab d k_X4_isLine 2 [some (.inr (.inr 162)), some (.inr (.inr 17)), some (.inl s)] [] (SH L0, D) (some (.inl t0), (SH L0, D))) (X := fun r => match r with | .inl r => (∀ (o4 : Option (Sum Int Nat)), EvF mtab d k_X4_isLine 25 [some (.inr (.inr 162)), some (.inr (.inr 17)), dv o4] [] (SH L0, D) (some (.inl t0), (SH L0, D))) | .inr r => (∀ (o5 : Option (Sum Int Nat)), EvF mtab d k_X4_isLine 33 [some (.inr (.inr 162)), some (.inr (.inr 17)), dv o5] [] (SH L0, D) (some (.inl t0), (SH L0, D)))) hr hX ?_
  clear hr hX
  intro s t hb hK0
  obtain ⟨l2_1, hre⟩ : ∃ q, q = s := ⟨s, rfl⟩
  subst hre
  show EvF mtab d k_X4_isLine 2 [some (.inr (.inr 162)), some (.inr (.inr 17)), some (.inl l2_1)] [] (SH L0, D) (some (.inl t0), (SH L0, D))
  unfold b_X4_isLine_2 at hb
  rcases ite_or hb with ⟨hc, hb⟩ | ⟨hc, hb⟩
  · refine ev_ift hc 5 (pc' := 13) (L' := [some (.inr (.inr 162)), some (.inr (.inr 17)), some (.inl l2_1)]) (S' := []) (σ' := (SH L0, D)) (fun _ _ => rfl) ?_
    obtain ⟨x2, hx, hb⟩ := bnd hb
    refine ev_bind hx 4 (pc' := 19) (L' := fun x2 => [some (.inr (.inr 162)), some (.inr (.inr 17)), some (.inl l2_1)]) (S' := fun x2 => [.inl x2]) (σ' := fun x2 => (SH L0, D)) (fun _ _ => rfl) ?_
    obtain ⟨x3, hx, hb⟩ := bnd hb
    refine ev_bind hx 3 (pc' := 22) (L' := fun x3 => [some (.inr (.inr 162)), some (.inr (.inr 17)), some (.inl l2_1)]) (S' := fun x3 => [.inl x3, .inl x2]) (σ' := fun x3 => (SH L0, D)) (fun _ _ => rfl) ?_
    rcases ite_or hb with ⟨hc, hb⟩ | ⟨hc, hb⟩
    · refine ev_ift hc 1 (pc' := 27) (L' := [some (.inr (.inr 162)), some (.inr (.inr 17)), some (.inl l2_1)]) (S' := []) (σ' := (SH L0, D)) (fun _ _ => rfl) ?_
      cases hb
      exact ev_go 2 (pc' := 2) (L' := [some (.inr (.inr 162)), some (.inr (.inr 17)), some (.inl (w32 (l2_1 + 1)))]) (S' := []) (σ' := (SH L0, D)) (fun _ _ => rfl) hK0
    · refine ev_iff hc 1 (pc' := 25) (L' := [some (.inr (.inr 162)), some (.inr (.inr 17)), some (.inl l2_1)]) (S' := []) (σ' := (SH L0, D)) (fun _ _ => rfl) ?_
      cases hb
      exact hK0 (some (.inl l2_1))
  · refine ev_iff hc 5 (pc' := 33) (L' := [some (.inr (.inr 162)), some (.inr (.inr 17)), some (.inl l2_1)]) (S' := []) (σ' := (SH L0, D)) (fun _ _ => rfl) ?_
    cases hb
    exact hK0 (some (.inl l2_1))
set_option maxRecDepth 100000 in
set_option maxHeartbeats 4000000 in
theorem e_X4_isLine_167_17 (L0 d : Nat) (hd : 1 ≤ d) {D : DT} {t0 : Int} (h : m_X4_isLine 167 D = some t0) : Ret mtab d 50 [.inr (.inr 167), .inr (.inr 17)] (SH L0, D) (some (.inl t0), (SH L0, D)) := by
  obtain ⟨d, rfl⟩ : ∃ e, d = e + 1 := ⟨d - 1, by omega⟩
  refine Ret.of (code := k_X4_isLine) (ml := 3) rfl ?_
  show EvF mtab d k_X4_isLine 0 [some (.inr (.inr 167)), some (.inr (.inr 17)), none] [] (SH L0, D) (some (.inl t0), (SH L0, D))
  unfold m_X4_isLine at h
  obtain ⟨r, hr, h⟩ := bnd h
  have hX : (fun (r : (Unit ⊕ Unit)) => match r with | .inl r => (∀ (o4 : Option (Sum Int Nat)), EvF mtab d k_X4_isLine 25 [some (.inr (.inr 167)), some (.inr (.inr 17)), dv o4] [] (SH L0, D) (some (.inl t0), (SH L0, D))) | .inr r => (∀ (o5 : Option (Sum Int Nat)), EvF mtab d k_X4_isLine 33 [some (.inr (.inr 167)), some (.inr (.inr 17)), dv o5] [] (SH L0, D) (some (.inl t0), (SH L0, D)))) r := by
    rcases r with r | r
    · skip
      intro o4
      show EvF mtab d k_X4_isLine 25 [some (.inr (.inr 167)), some (.inr (.inr 17)), dv o4] [] (SH L0, D) (some (.inl t0), (SH L0, D))
      cases h
      exact ev_ret 2 (fun _ _ => rfl)
    intro o5
    show EvF mtab d k_X4_isLine 33 [some (.inr (.inr 167)), some (.inr (.inr 17)), dv o5] [] (SH L0, D) (some (.inl t0), (SH L0, D))
    cases h
    exact ev_ret 2 (fun _ _ => rfl)
  clear h
  refine ev_go 2 (pc' := 2) (L' := [some (.inr (.inr 167)), some (.inr (.inr 17)), some (.inl 0)]) (S' := []) (σ' := (SH L0, D)) (fun _ _ => rfl) ?_
  refine loop_ind (P := fun s => EvF mtab d k_X4_isLine 2 [some (.inr (.inr 167)), some (.inr (.inr 17)), some (.inl s)] [] (SH L0, D) (some (.inl t0), (SH L0, D))) (X := fun r => match r with | .inl r => (∀ (o4 : Option (Sum Int Nat)), EvF mtab d k_X4_isLine 25 [some (.inr (.inr 167)), some (.inr (.inr 17)), dv o4] [] (SH L0, D) (some (.inl t0), (SH L0, D))) | .inr r => (∀ (o5 : Option (Sum Int Nat)), EvF mtab d k_X4_isLine 33 [some (.inr (.inr 167)), some (.inr (.inr 17)), dv o5] [] (SH L0, D) (some (.inl t0), (SH L0, D)))) hr hX ?_
  clear hr hX
  intro s t hb hK0
  obtain ⟨l2_1, hre⟩ : ∃ q, q = s := ⟨s, rfl⟩
  subst hre
  show EvF mtab d k_X4_isLine 2 [some (.inr (.inr 167)), some (.inr (.inr 17)), some (.inl l2_1)] [] (SH L0, D) (some (.inl t0), (SH L0, D))
  unfold b_X4_isLine_2 at hb
  rcases ite_or hb with ⟨hc, hb⟩ | ⟨hc, hb⟩
  · refine ev_ift hc 5 (pc' := 13) (L' := [some (.inr (.inr 167)), some (.inr (.inr 17)), some (.inl l2_1)]) (S' := []) (σ' := (SH L0, D)) (fun _ _ => rfl) ?_
    obtain ⟨x2, hx, hb⟩ := bnd hb
    refine ev_bind hx 4 (pc' := 19) (L' := fun x2 => [some (.inr (.inr 167)), some (.inr (.inr 17)), some (.inl l2_1)]) (S' := fun x2 => [.inl x2]) (σ' := fun x2 => (SH L0, D)) (fun _ _ => rfl) ?_
    obtain ⟨x3, hx, hb⟩ := bnd hb
    refine ev_bind hx 3 (pc' := 22) (L' := fun x3 => [some (.inr (.inr 167)), some (.inr (.inr 17)), some (.inl l2_1)]) (S' := fun x3 => [.inl x3, .inl x2]) (σ' := fun x3 => (SH L0, D)) (fun _ _ => rfl) ?_
    rcases ite_or hb with ⟨hc, hb⟩ | ⟨hc, hb⟩
    · refine ev_ift hc 1 (pc' := 27) (L' := [some (.inr (.inr 167)), some (.inr (.inr 17)), some (.inl l2_1)]) (S' := []) (σ' := (SH L0, D)) (fun _ _ => rfl) ?_
      cases hb
      exact ev_go 2 (pc' := 2) (L' := [some (.inr (.inr 167)), some (.inr (.inr 17)), some (.inl (w32 (l2_1 + 1)))]) (S' := []) (σ' := (SH L0, D)) (fun _ _ => rfl) hK0
    · refine ev_iff hc 1 (pc' := 25) (L' := [some (.inr (.inr 167)), some (.inr (.inr 17)), some (.inl l2_1)]) (S' := []) (σ' := (SH L0, D)) (fun _ _ => rfl) ?_
      cases hb
      exact hK0 (some (.inl l2_1))
  · refine ev_iff hc 5 (pc' := 33) (L' := [some (.inr (.inr 167)), some (.inr (.inr 17)), some (.inl l2_1)]) (S' := []) (σ' := (SH L0, D)) (fun _ _ => rfl) ?_
    cases hb
    exact hK0 (some (.inl l2_1))
set_option maxRecDepth 100000 in
set_option maxHeartbeats 4000000 in
theorem e_X4_isLine_172_17 (L0 d : Nat) (hd : 1 ≤ d) {D : DT} {t0 : Int} (h : m_X4_isLine 172 D = some t0) : Ret mtab d 50 [.inr (.inr 172), .inr (.inr 17)] (SH L0, D) (some (.inl t0), (SH L0, D)) := by
  obtain ⟨d, rfl⟩ : ∃ e, d = e + 1 := ⟨d - 1, by omega⟩
  refine Ret.of (code := k_X4_isLine) (ml := 3) rfl ?_
  show EvF mtab d k_X4_isLine 0 [some (.inr (.inr 172)), some (.inr (.inr 17)), none] [] (SH L0, D) (some (.inl t0), (SH L0, D))
  unfold m_X4_isLine at h
  obtain ⟨r, hr, h⟩ := bnd h
  have hX : (fun (r : (Unit ⊕ Unit)) => match r with | .inl r => (∀ (o4 : Option (Sum Int Nat)), EvF mtab d k_X4_isLine 25 [some (.inr (.inr 172)), some (.inr (.inr 17)), dv o4] [] (SH L0, D) (some (.inl t0), (SH L0, D))) | .inr r => (∀ (o5 : Option (Sum Int Nat)), EvF mtab d k_X4_isLine 33 [some (.inr (.inr 172)), some (.inr (.inr 17)), dv o5] [] (SH L0, D) (some (.inl t0), (SH L0, D)))) r := by
    rcases r with r | r
    · skip
      intro o4
      show EvF mtab d k_X4_isLine 25 [some (.inr (.inr 172)), some (.inr (.inr 17)), dv o4] [] (SH L0, D) (some (.inl t0), (SH L0, D))
      cases h
      exact ev_ret 2 (fun _ _ => rfl)
    intro o5
    show EvF mtab d k_X4_isLine 33 [some (.inr (.inr 172)), some (.inr (.inr 17)), dv o5] [] (SH L0, D) (some (.inl t0), (SH L0, D))
    cases h
    exact ev_ret 2 (fun _ _ => rfl)
  clear h
  refine ev_go 2 (pc' := 2) (L' := [some (.inr (.inr 172)), some (.inr (.inr 17)), some (.inl 0)]) (S' := []) (σ' := (SH L0, D)) (fun _ _ => rfl) ?_
  refine loop_ind (P := fun s => EvF mtab d k_X4_isLine 2 [some (.inr (.inr 172)), some (.inr (.inr 17)), some (.inl s)] [] (SH L0, D) (some (.inl t0), (SH L0, D))) (X := fun r => match r with | .inl r => (∀ (o4 : Option (Sum Int Nat)), EvF mtab d k_X4_isLine 25 [some (.inr (.inr 172)), some (.inr (.inr 17)), dv o4] [] (SH L0, D) (some (.inl t0), (SH L0, D))) | .inr r => (∀ (o5 : Option (Sum Int Nat)), EvF mtab d k_X4_isLine 33 [some (.inr (.inr 172)), some (.inr (.inr 17)), dv o5] [] (SH L0, D) (some (.inl t0), (SH L0, D)))) hr hX ?_
  clear hr hX
  intro s t hb hK0
  obtain ⟨l2_1, hre⟩ : ∃ q, q = s := ⟨s, rfl⟩
  subst hre
  show EvF mtab d k_X4_isLine 2 [some (.inr (.inr 172)), some (.inr (.inr 17)), some (.inl l2_1)] [] (SH L0, D) (some (.inl t0), (SH L0, D))
  unfold b_X4_isLine_2 at hb
  rcases ite_or hb with ⟨hc, hb⟩ | ⟨hc, hb⟩
  · refine ev_ift hc 5 (pc' := 13) (L' := [some (.inr (.inr 172)), some (.inr (.inr 17)), some (.inl l2_1)]) (S' := []) (σ' := (SH L0, D)) (fun _ _ => rfl) ?_
    obtain ⟨x2, hx, hb⟩ := bnd hb
    refine ev_bind hx 4 (pc' := 19) (L' := fun x2 => [some (.inr (.inr 172)), some (.inr (.inr 17)), some (.inl l2_1)]) (S' := fun x2 => [.inl x2]) (σ' := fun x2 => (SH L0, D)) (fun _ _ => rfl) ?_
    obtain ⟨x3, hx, hb⟩ := bnd hb
    refine ev_bind hx 3 (pc' := 22) (L' := fun x3 => [some (.inr (.inr 172)), some (.inr (.inr 17)), some (.inl l2_1)]) (S' := fun x3 => [.inl x3, .inl x2]) (σ' := fun x3 => (SH L0, D)) (fun _ _ => rfl) ?_
    rcases ite_or hb with ⟨hc, hb⟩ | ⟨hc, hb⟩
    · refine ev_ift hc 1 (pc' := 27) (L' := [some (.inr (.inr 172)), some (.inr (.inr 17)), some (.inl l2_1)]) (S' := []) (σ' := (SH L0, D)) (fun _ _ => rfl) ?_
      cases hb
      exact ev_go 2 (pc' := 2) (L' := [some (.inr (.inr 172)), some (.inr (.inr 17)), some (.inl (w32 (l2_1 + 1)))]) (S' := []) (σ' := (SH L0, D)) (fun _ _ => rfl) hK0
    · refine ev_iff hc 1 (pc' := 25) (L' := [some (.inr (.inr 172)), some (.inr (.inr 17)), some (.inl l2_1)]) (S' := []) (σ' := (SH L0, D)) (fun _ _ => rfl) ?_
      cases hb
      exact hK0 (some (.inl l2_1))
  · refine ev_iff hc 5 (pc' := 33) (L' := [some (.inr (.inr 172)), some (.inr (.inr 17)), some (.inl l2_1)]) (S' := []) (σ' := (SH L0, D)) (fun _ _ => rfl) ?_
    cases hb
    exact hK0 (some (.inl l2_1))
set_option maxRecDepth 100000 in
set_option maxHeartbeats 4000000 in
theorem e_X4_isLine_177_17 (L0 d : Nat) (hd : 1 ≤ d) {D : DT} {t0 : Int} (h : m_X4_isLine 177 D = some t0) : Ret mtab d 50 [.inr (.inr 177), .inr (.inr 17)] (SH L0, D) (some (.inl t0), (SH L0, D)) := by
  obtain ⟨d, rfl⟩ : ∃ e, d = e + 1 := ⟨d - 1, by omega⟩
  refine Ret.of (code := k_X4_isLine) (ml := 3) rfl ?_
  show EvF mtab d k_X4_isLine 0 [some (.inr (.inr 177)), some (.inr (.inr 17)), none] [] (SH L0, D) (some (.inl t0), (SH L0, D))
  unfold m_X4_isLine at h
  obtain ⟨r, hr, h⟩ := bnd h
  have hX : (fun (r : (Unit ⊕ Unit)) => match r with | .inl r => (∀ (o4 : Option (Sum Int Nat)), EvF mtab d k_X4_isLine 25 [some (.inr (.inr 177)), some (.inr (.inr 17)), dv o4] [] (SH L0, D) (some (.inl t0), (SH L0, D))) | .inr r => (∀ (o5 : Option (Sum Int Nat)), EvF mtab d k_X4_isLine 33 [some (.inr (.inr 177)), some (.inr (.inr 17)), dv o5] [] (SH L0, D) (some (.inl t0), (SH L0, D)))) r := by
    rcases r with r | r
    · skip
      intro o4
      show EvF mtab d k_X4_isLine 25 [some (.inr (.inr 177)), some (.inr (.inr 17)), dv o4] [] (SH L0, D) (some (.inl t0), (SH L0, D))
      cases h
      exact ev_ret 2 (fun _ _ => rfl)
    intro o5
    show EvF mtab d k_X4_isLine 33 [some (.inr (.inr 177)), some (.inr (.inr 17)), dv o5] [] (SH L0, D) (some (.inl t0), (SH L0, D))
    cases h
    exact ev_ret 2 (fun _ _ => rfl)
  clear h
  refine ev_go 2 (pc' := 2) (L' := [some (.inr (.inr 177)), some (.inr (.inr 17)), some (.inl 0)]) (S' := []) (σ' := (SH L0, D)) (fun _ _ => rfl) ?_
  refine loop_ind (P := fun s => EvF mtab d k_X4_isLine 2 [some (.inr (.inr 177)), some (.inr (.inr 17)), some (.inl s)] [] (SH L0, D) (some (.inl t0), (SH L0, D))) (X := fun r => match r with | .inl r => (∀ (o4 : Option (Sum Int Nat)), EvF mtab d k_X4_isLine 25 [some (.inr (.inr 177)), some (.inr (.inr 17)), dv o4] [] (SH L0, D) (some (.inl t0), (SH L0, D))) | .inr r => (∀ (o5 : Option (Sum Int Nat)), EvF mtab d k_X4_isLine 33 [some (.inr (.inr 177)), some (.inr (.inr 17)), dv o5] [] (SH L0, D) (some (.inl t0), (SH L0, D)))) hr hX ?_
  clear hr hX
  intro s t hb hK0
  obtain ⟨l2_1, hre⟩ : ∃ q, q = s := ⟨s, rfl⟩
  subst hre
  show EvF mtab d k_X4_isLine 2 [some (.inr (.inr 177)), some (.inr (.inr 17)), some (.inl l2_1)] [] (SH L0, D) (some (.inl t0), (SH L0, D))
  unfold b_X4_isLine_2 at hb
  rcases ite_or hb with ⟨hc, hb⟩ | ⟨hc, hb⟩
  · refine ev_ift hc 5 (pc' := 13) (L' := [some (.inr (.inr 177)), some (.inr (.inr 17)), some (.inl l2_1)]) (S' := []) (σ' := (SH L0, D)) (fun _ _ => rfl) ?_
    obtain ⟨x2, hx, hb⟩ := bnd hb
    refine ev_bind hx 4 (pc' := 19) (L' := fun x2 => [some (.inr (.inr 177)), some (.inr (.inr 17)), some (.inl l2_1)]) (S' := fun x2 => [.inl x2]) (σ' := fun x2 => (SH L0, D)) (fun _ _ => rfl) ?_
    obtain ⟨x3, hx, hb⟩ := bnd hb
    refine ev_bind hx 3 (pc' := 22) (L' := fun x3 => [some (.inr (.inr 177)), some (.inr (.inr 17)), some (.inl l2_1)]) (S' := fun x3 => [.inl x3, .inl x2]) (σ' := fun x3 => (SH L0, D)) (fun _ _ => rfl) ?_
    rcases ite_or hb with ⟨hc, hb⟩ | ⟨hc, hb⟩
    · refine ev_ift hc 1 (pc' := 27) (L' := [some (.inr (.inr 177)), some (.inr (.inr 17)), some (.inl l2_1)]) (S' := []) (σ' := (SH L0, D)) (fun _ _ => rfl) ?_
      cases hb
      exact ev_go 2 (pc' := 2) (L' := [some (.inr (.inr 177)), some (.inr (.inr 17)), some (.inl (w32 (l2_1 + 1)))]) (S' := []) (σ' := (SH L0, D)) (fun _ _ => rfl) hK0
    · refine ev_iff hc 1 (pc' := 25) (L' := [some (.inr (.inr 177)), some (.inr (.inr 17)), some (.inl l2_1)]) (S' := []) (σ' := (SH L0, D)) (fun _ _ => rfl) ?_
      cases hb
      exact hK0 (some (.inl l2_1))
  · refine ev_iff hc 5 (pc' := 33) (L' := [some (.inr (.inr 177)), some (.inr (.inr 17)), some (.inl l2_1)]) (S' := []) (σ' := (SH L0, D)) (fun _ _ => rfl) ?_
    cases hb
    exact hK0 (some (.inl l2_1))
set_option maxRecDepth 100000 in
set_option maxHeartbeats 4000000 in
theorem e_X4_isLine_182_17 (L0 d : Nat) (hd : 1 ≤ d) {D : DT} {t0 : Int} (h : m_X4_isLine 182 D = some t0) : Ret mtab d 50 [.inr (.inr 182), .inr (.inr 17)] (SH L0, D) (some (.inl t0), (SH L0, D)) := by
  obtain ⟨d, rfl⟩ : ∃ e, d = e + 1 := ⟨d - 1, by omega⟩
  refine Ret.of (code := k_X4_isLine) (ml := 3) rfl ?_
  show EvF mtab d k_X4_isLine 0 [some (.inr (.inr 182)), some (.inr (.inr 17)), none] [] (SH L0, D) (some (.inl t0), (SH L0, D))
  unfold m_X4_isLine at h
  obtain ⟨r, hr, h⟩ := bnd h
  have hX : (fun (r : (Unit ⊕ Unit)) => match r with | .inl r => (∀ (o4 : Option (Sum Int Nat)), EvF mtab d k_X4_isLine 25 [some (.inr (.inr 182)), some (.inr (.inr 17)), dv o4] [] (SH L0, D) (some (.inl t0), (SH L0, D))) | .inr r => (∀ (o5 : Option (Sum Int Nat)), EvF mtab d k_X4_isLine 33 [some (.inr (.inr 182)), some (.inr (.inr 17)), dv o5] [] (SH L0, D) (some (.inl t0), (SH L0, D)))) r := by
    rcases r with r | r
    · skip
      intro o4
      show EvF mtab d k_X4_isLine 25 [some (.inr (.inr 182)), some (.inr (.inr 17)), dv o4] [] (SH L0, D) (some (.inl t0), (SH L0, D))
      cases h
      exact ev_ret 2 (fun _ _ => rfl)
    intro o5
    show EvF mtab d k_X4_isLine 33 [some (.inr (.inr 182)), some (.inr (.inr 17)), dv o5] [] (SH L0, D) (some (.inl t0), (SH L0, D))
    cases h
    exact ev_ret 2 (fun _ _ => rfl)
  clear h
  refine ev_go 2 (pc' := 2) (L' := [some (.inr (.inr 182)), some (.inr (.inr 17)), some (.inl 0)]) (S' := []) (σ' := (SH L0, D)) (fun _ _ => rfl) ?_
  refine loop_ind (P := fun s => EvF mtab d k_X4_isLine 2 [some (.inr (.inr 182)), some (.inr (.inr 17)), some (.inl s)] [] (SH L0, D) (some (.inl t0), (SH L0, D))) (X := fun r => match r with | .inl r => (∀ (o4 : Option (Sum Int Nat)), EvF mtab d k_X4_isLine 25 [some (.inr (.inr 182)), some (.inr (.inr 17)), dv o4] [] (SH L0, D) (some (.inl t0), (SH L0, D))) | .inr r => (∀ (o5 : Option (Sum Int Nat)), EvF mtab d k_X4_isLine 33 [some (.inr (.inr 182)), some (.inr (.inr 17)), dv o5] [] (SH L0, D) (some (.inl t0), (SH L0, D)))) hr hX ?_
  clear hr hX
  intro s t hb hK0
  obtain ⟨l2_1, hre⟩ : ∃ q, q = s := ⟨s, rfl⟩
  subst hre
  show EvF mtab d k_X4_isLine 2 [some (.inr (.inr 182)), some (.inr (.inr 17)), some (.inl l2_1)] [] (SH L0, D) (some (.inl t0), (SH L0, D))
  unfold b_X4_isLine_2 at hb
  rcases ite_or hb with ⟨hc, hb⟩ | ⟨hc, hb⟩
  · refine ev_ift hc 5 (pc' := 13) (L' := [some (.inr (.inr 182)), some (.inr (.inr 17)), some (.inl l2_1)]) (S' := []) (σ' := (SH L0, D)) (fun _ _ => rfl) ?_
    obtain ⟨x2, hx, hb⟩ := bnd hb
    refine ev_bind hx 4 (pc' := 19) (L' := fun x2 => [some (.inr (.inr 182)), some (.inr (.inr 17)), some (.inl l2_1)]) (S' := fun x2 => [.inl x2]) (σ' := fun x2 => (SH L0, D)) (fun _ _ => rfl) ?_
    obtain ⟨x3, hx, hb⟩ := bnd hb
    refine ev_bind hx 3 (pc' := 22) (L' := fun x3 => [some (.inr (.inr 182)), some (.inr (.inr 17)), some (.inl l2_1)]) (S' := fun x3 => [.inl x3, .inl x2]) (σ' := fun x3 => (SH L0, D)) (fun _ _ => rfl) ?_
    rcases ite_or hb with ⟨hc, hb⟩ | ⟨hc, hb⟩
    · refine ev_ift hc 1 (pc' := 27) (L' := [some (.inr (.inr 182)), some (.inr (.inr 17)), some (.inl l2_1)]) (S' := []) (σ' := (SH L0, D)) (fun _ _ => rfl) ?_
      cases hb
      exact ev_go 2 (pc' := 2) (L' := [some (.inr (.inr 182)), some (.inr (.inr 17)), some (.inl (w32 (l2_1 + 1)))]) (S' := []) (σ' := (SH L0, D)) (fun _ _ => rfl) hK0
    · refine ev_iff hc 1 (pc' := 25) (L' := [some (.inr (.inr 182)), some (.inr (.inr 17)), some (.inl l2_1)]) (S' := []) (σ' := (SH L0, D)) (fun _ _ => rfl) ?_
      cases hb
      exact hK0 (some (.inl l2_1))
  · refine ev_iff hc 5 (pc' := 33) (L' := [some (.inr (.inr 182)), some (.inr (.inr 17)), some (.inl l2_1)]) (S' := []) (σ' := (SH L0, D)) (fun _ _ => rfl) ?_
    cases hb
    exact hK0 (some (.inl l2_1))
set_option maxRecDepth 100000 in
set_option maxHeartbeats 4000000 in
theorem e_X4_jumpsBy_162 (L0 d : Nat) (hd : 3 ≤ d) {p1 : Int} {D : DT} {t0 : Int} (h : m_X4_jumpsBy 162 p1 D = some t0) : Ret mtab d 51 [.inr (.inr 162), .inl p1] (SH L0, D) (some (.inl t0), (SH L0, D)) := by
  obtain ⟨d, rfl⟩ : ∃ e, d = e + 1 := ⟨d - 1, by omega⟩
  refine Ret.of (code := k_X4_jumpsBy) (ml := 2) rfl ?_
  show EvF mtab d k_X4_jumpsBy 0 [some (.inr (.inr 162)), some (.inl p1)] [] (SH L0, D) (some (.inl t0), (SH L0, D))
  unfold m_X4_jumpsBy at h
  obtain ⟨x1, hx, h⟩ := bnd h
  refine ev_call (e_X7_isInside_4 L0 d (by omega) hx) 4 (pc' := 8) (L' := [some (.inr (.inr 162)), some (.inl p1)]) (S' := []) (fun _ _ => rfl) ?_
  rcases ite_or h with ⟨hc, h⟩ | ⟨hc, h⟩
  · refine ev_ift hc 1 (pc' := 30) (L' := [some (.inr (.inr 162)), some (.inl p1)]) (S' := []) (σ' := (SH L0, D)) (fun _ _ => rfl) ?_
    cases h
    exact ev_ret 2 (fun _ _ => rfl)
  · refine ev_iff hc 1 (pc' := 11) (L' := [some (.inr (.inr 162)), some (.inl p1)]) (S' := []) (σ' := (SH L0, D)) (fun _ _ => rfl) ?_
    obtain ⟨x2, hx, h⟩ := bnd h
    refine ev_call (e_X4_isFall_162 L0 d (by omega) hx) 3 (pc' := 16) (L' := [some (.inr (.inr 162)), some (.inl p1)]) (S' := []) (fun _ _ => rfl) ?_
    rcases ite_or h with ⟨hc, h⟩ | ⟨hc, h⟩
    · refine ev_ift hc 1 (pc' := 19) (L' := [some (.inr (.inr 162)), some (.inl p1)]) (S' := []) (σ' := (SH L0, D)) (fun _ _ => rfl) ?_
      obtain ⟨x3, hx, h⟩ := bnd h
      refine ev_call (e_X2_worth L0 d (by omega) hx) 4 (pc' := 27) (L' := [some (.inr (.inr 162)), some (.inl p1)]) (S' := []) (fun _ _ => rfl) ?_
      cases h
      exact ev_ret 2 (fun _ _ => rfl)
    · refine ev_iff hc 1 (pc' := 30) (L' := [some (.inr (.inr 162)), some (.inl p1)]) (S' := []) (σ' := (SH L0, D)) (fun _ _ => rfl) ?_
      cases h
      exact ev_ret 2 (fun _ _ => rfl)
set_option maxRecDepth 100000 in
set_option maxHeartbeats 4000000 in
theorem e_X4_jumpsBy_167 (L0 d : Nat) (hd : 3 ≤ d) {p1 : Int} {D : DT} {t0 : Int} (h : m_X4_jumpsBy 167 p1 D = some t0) : Ret mtab d 51 [.inr (.inr 167), .inl p1] (SH L0, D) (some (.inl t0), (SH L0, D)) := by
  obtain ⟨d, rfl⟩ : ∃ e, d = e + 1 := ⟨d - 1, by omega⟩
  refine Ret.of (code := k_X4_jumpsBy) (ml := 2) rfl ?_
  show EvF mtab d k_X4_jumpsBy 0 [some (.inr (.inr 167)), some (.inl p1)] [] (SH L0, D) (some (.inl t0), (SH L0, D))
  unfold m_X4_jumpsBy at h
  obtain ⟨x1, hx, h⟩ := bnd h
  refine ev_call (e_X7_isInside_4 L0 d (by omega) hx) 4 (pc' := 8) (L' := [some (.inr (.inr 167)), some (.inl p1)]) (S' := []) (fun _ _ => rfl) ?_
  rcases ite_or h with ⟨hc, h⟩ | ⟨hc, h⟩
  · refine ev_ift hc 1 (pc' := 30) (L' := [some (.inr (.inr 167)), some (.inl p1)]) (S' := []) (σ' := (SH L0, D)) (fun _ _ => rfl) ?_
    cases h
    exact ev_ret 2 (fun _ _ => rfl)
  · refine ev_iff hc 1 (pc' := 11) (L' := [some (.inr (.inr 167)), some (.inl p1)]) (S' := []) (σ' := (SH L0, D)) (fun _ _ => rfl) ?_
    obtain ⟨x2, hx, h⟩ := bnd h
    refine ev_call (e_X4_isFall_167 L0 d (by omega) hx) 3 (pc' := 16) (L' := [some (.inr (.inr 167)), some (.inl p1)]) (S' := []) (fun _ _ => rfl) ?_
    rcases ite_or h with ⟨hc, h⟩ | ⟨hc, h⟩
    · refine ev_ift hc 1 (pc' := 19) (L' := [some (.inr (.inr 167)), some (.inl p1)]) (S' := []) (σ' := (SH L0, D)) (fun _ _ => rfl) ?_
      obtain ⟨x3, hx, h⟩ := bnd h
      refine ev_call (e_X2_worth L0 d (by omega) hx) 4 (pc' := 27) (L' := [some (.inr (.inr 167)), some (.inl p1)]) (S' := []) (fun _ _ => rfl) ?_
      cases h
      exact ev_ret 2 (fun _ _ => rfl)
    · refine ev_iff hc 1 (pc' := 30) (L' := [some (.inr (.inr 167)), some (.inl p1)]) (S' := []) (σ' := (SH L0, D)) (fun _ _ => rfl) ?_
      cases h
      exact ev_ret 2 (fun _ _ => rfl)
set_option maxRecDepth 100000 in
set_option maxHeartbeats 4000000 in
theorem e_X4_jumpsBy_172 (L0 d : Nat) (hd : 3 ≤ d) {p1 : Int} {D : DT} {t0 : Int} (h : m_X4_jumpsBy 172 p1 D = some t0) : Ret mtab d 51 [.inr (.inr 172), .inl p1] (SH L0, D) (some (.inl t0), (SH L0, D)) := by
  obtain ⟨d, rfl⟩ : ∃ e, d = e + 1 := ⟨d - 1, by omega⟩
  refine Ret.of (code := k_X4_jumpsBy) (ml := 2) rfl ?_
  show EvF mtab d k_X4_jumpsBy 0 [some (.inr (.inr 172)), some (.inl p1)] [] (SH L0, D) (some (.inl t0), (SH L0, D))
  unfold m_X4_jumpsBy at h
  obtain ⟨x1, hx, h⟩ := bnd h
  refine ev_call (e_X7_isInside_4 L0 d (by omega) hx) 4 (pc' := 8) (L' := [some (.inr (.inr 172)), some (.inl p1)]) (S' := []) (fun _ _ => rfl) ?_
  rcases ite_or h with ⟨hc, h⟩ | ⟨hc, h⟩
  · refine ev_ift hc 1 (pc' := 30) (L' := [some (.inr (.inr 172)), some (.inl p1)]) (S' := []) (σ' := (SH L0, D)) (fun _ _ => rfl) ?_
    cases h
    exact ev_ret 2 (fun _ _ => rfl)
  · refine ev_iff hc 1 (pc' := 11) (L' := [some (.inr (.inr 172)), some (.inl p1)]) (S' := []) (σ' := (SH L0, D)) (fun _ _ => rfl) ?_
    obtain ⟨x2, hx, h⟩ := bnd h
    refine ev_call (e_X4_isFall_172 L0 d (by omega) hx) 3 (pc' := 16) (L' := [some (.inr (.inr 172)), some (.inl p1)]) (S' := []) (fun _ _ => rfl) ?_
    rcases ite_or h with ⟨hc, h⟩ | ⟨hc, h⟩
    · refine ev_ift hc 1 (pc' := 19) (L' := [some (.inr (.inr 172)), some (.inl p1)]) (S' := []) (σ' := (SH L0, D)) (fun _ _ => rfl) ?_
      obtain ⟨x3, hx, h⟩ := bnd h
      refine ev_call (e_X2_worth L0 d (by omega) hx) 4 (pc' := 27) (L' := [some (.inr (.inr 172)), some (.inl p1)]) (S' := []) (fun _ _ => rfl) ?_
      cases h
      exact ev_ret 2 (fun _ _ => rfl)
    · refine ev_iff hc 1 (pc' := 30) (L' := [some (.inr (.inr 172)), some (.inl p1)]) (S' := []) (σ' := (SH L0, D)) (fun _ _ => rfl) ?_
      cases h
      exact ev_ret 2 (fun _ _ => rfl)
set_option maxRecDepth 100000 in
set_option maxHeartbeats 4000000 in
theorem e_X4_jumpsBy_177 (L0 d : Nat) (hd : 3 ≤ d) {p1 : Int} {D : DT} {t0 : Int} (h : m_X4_jumpsBy 177 p1 D = some t0) : Ret mtab d 51 [.inr (.inr 177), .inl p1] (SH L0, D) (some (.inl t0), (SH L0, D)) := by
  obtain ⟨d, rfl⟩ : ∃ e, d = e + 1 := ⟨d - 1, by omega⟩
  refine Ret.of (code := k_X4_jumpsBy) (ml := 2) rfl ?_
  show EvF mtab d k_X4_jumpsBy 0 [some (.inr (.inr 177)), some (.inl p1)] [] (SH L0, D) (some (.inl t0), (SH L0, D))
  unfold m_X4_jumpsBy at h
  obtain ⟨x1, hx, h⟩ := bnd h
  refine ev_call (e_X7_isInside_4 L0 d (by omega) hx) 4 (pc' := 8) (L' := [some (.inr (.inr 177)), some (.inl p1)]) (S' := []) (fun _ _ => rfl) ?_
  rcases ite_or h with ⟨hc, h⟩ | ⟨hc, h⟩
  · refine ev_ift hc 1 (pc' := 30) (L' := [some (.inr (.inr 177)), some (.inl p1)]) (S' := []) (σ' := (SH L0, D)) (fun _ _ => rfl) ?_
    cases h
    exact ev_ret 2 (fun _ _ => rfl)
  · refine ev_iff hc 1 (pc' := 11) (L' := [some (.inr (.inr 177)), some (.inl p1)]) (S' := []) (σ' := (SH L0, D)) (fun _ _ => rfl) ?_
    obtain ⟨x2, hx, h⟩ := bnd h
    refine ev_call (e_X4_isFall_177 L0 d (by omega) hx) 3 (pc' := 16) (L' := [some (.inr (.inr 177)), some (.inl p1)]) (S' := []) (fun _ _ => rfl) ?_
    rcases ite_or h with ⟨hc, h⟩ | ⟨hc, h⟩
    · refine ev_ift hc 1 (pc' := 19) (L' := [some (.inr (.inr 177)), some (.inl p1)]) (S' := []) (σ' := (SH L0, D)) (fun _ _ => rfl) ?_
      obtain ⟨x3, hx, h⟩ := bnd h
      refine ev_call (e_X2_worth L0 d (by omega) hx) 4 (pc' := 27) (L' := [some (.inr (.inr 177)), some (.inl p1)]) (S' := []) (fun _ _ => rfl) ?_
      cases h
      exact ev_ret 2 (fun _ _ => rfl)
    · refine ev_iff hc 1 (pc' := 30) (L' := [some (.inr (.inr 177)), some (.inl p1)]) (S' := []) (σ' := (SH L0, D)) (fun _ _ => rfl) ?_
      cases h
      exact ev_ret 2 (fun _ _ => rfl)
set_option maxRecDepth 100000 in
set_option maxHeartbeats 4000000 in
theorem e_X4_jumpsBy_182 (L0 d : Nat) (hd : 3 ≤ d) {p1 : Int} {D : DT} {t0 : Int} (h : m_X4_jumpsBy 182 p1 D = some t0) : Ret mtab d 51 [.inr (.inr 182), .inl p1] (SH L0, D) (some (.inl t0), (SH L0, D)) := by
  obtain ⟨d, rfl⟩ : ∃ e, d = e + 1 := ⟨d - 1, by omega⟩
  refine Ret.of (code := k_X4_jumpsBy) (ml := 2) rfl ?_
  show EvF mtab d k_X4_jumpsBy 0 [some (.inr (.inr 182)), some (.inl p1)] [] (SH L0, D) (some (.inl t0), (SH L0, D))
  unfold m_X4_jumpsBy at h
  obtain ⟨x1, hx, h⟩ := bnd h
  refine ev_call (e_X7_isInside_4 L0 d (by omega) hx) 4 (pc' := 8) (L' := [some (.inr (.inr 182)), some (.inl p1)]) (S' := []) (fun _ _ => rfl) ?_
  rcases ite_or h with ⟨hc, h⟩ | ⟨hc, h⟩
  · refine ev_ift hc 1 (pc' := 30) (L' := [some (.inr (.inr 182)), some (.inl p1)]) (S' := []) (σ' := (SH L0, D)) (fun _ _ => rfl) ?_
    cases h
    exact ev_ret 2 (fun _ _ => rfl)
  · refine ev_iff hc 1 (pc' := 11) (L' := [some (.inr (.inr 182)), some (.inl p1)]) (S' := []) (σ' := (SH L0, D)) (fun _ _ => rfl) ?_
    obtain ⟨x2, hx, h⟩ := bnd h
    refine ev_call (e_X4_isFall_182 L0 d (by omega) hx) 3 (pc' := 16) (L' := [some (.inr (.inr 182)), some (.inl p1)]) (S' := []) (fun _ _ => rfl) ?_
    rcases ite_or h with ⟨hc, h⟩ | ⟨hc, h⟩
    · refine ev_ift hc 1 (pc' := 19) (L' := [some (.inr (.inr 182)), some (.inl p1)]) (S' := []) (σ' := (SH L0, D)) (fun _ _ => rfl) ?_
      obtain ⟨x3, hx, h⟩ := bnd h
      refine ev_call (e_X2_worth L0 d (by omega) hx) 4 (pc' := 27) (L' := [some (.inr (.inr 182)), some (.inl p1)]) (S' := []) (fun _ _ => rfl) ?_
      cases h
      exact ev_ret 2 (fun _ _ => rfl)
    · refine ev_iff hc 1 (pc' := 30) (L' := [some (.inr (.inr 182)), some (.inl p1)]) (S' := []) (σ' := (SH L0, D)) (fun _ _ => rfl) ?_
      cases h
      exact ev_ret 2 (fun _ _ => rfl)
set_option maxRecDepth 100000 in
set_option maxHeartbeats 4000000 in
theorem e_X4_jumpsOf_162 (L0 d : Nat) (hd : 4 ≤ d) {p1 : Int} {D : DT} {t0 : Int} (h : m_X4_jumpsOf 162 p1 D = some t0) : Ret mtab d 52 [.inr (.inr 162), .inl p1] (SH L0, D) (some (.inl t0), (SH L0, D)) := by
  obtain ⟨d, rfl⟩ : ∃ e, d = e + 1 := ⟨d - 1, by omega⟩
  refine Ret.of (code := k_X4_jumpsOf) (ml := 6) rfl ?_
  show EvF mtab d k_X4_jumpsOf 0 [some (.inr (.inr 162)), some (.inl p1), none, none, none, none] [] (SH L0, D) (some (.inl t0), (SH L0, D))
  unfold m_X4_jumpsOf at h
  obtain ⟨r, hr, h⟩ := bnd h
  have hX : (fun (r : Int) => ∀ (o15 : Option (Sum Int Nat)) (o16 : Option (Sum Int Nat)) (o17 : Option (Sum Int Nat)), EvF mtab d k_X4_jumpsOf 77 [some (.inr (.inr 162)), some (.inl p1), some (.inl r), dv o15, dv o16, dv o17] [] (SH L0, D) (some (.inl t0), (SH L0, D))) r := by
    obtain ⟨l2_14, hre⟩ : ∃ q, q = r := ⟨r, rfl⟩
    subst hre
    intro o15 o16 o17
    show EvF mtab d k_X4_jumpsOf 77 [some (.inr (.inr 162)), some (.inl p1), some (.inl l2_14), dv o15, dv o16, dv o17] [] (SH L0, D) (some (.inl t0), (SH L0, D))
    cases h
    exact ev_ret 2 (fun _ _ => rfl)
  clear h
  refine ev_go 4 (pc' := 4) (L' := [some (.inr (.inr 162)), some (.inl p1), some (.inl 0), some (.inl 0), none, none]) (S' := []) (σ' := (SH L0, D)) (fun _ _ => rfl) ?_
  refine loop_ind (P := fun s => ∀ (o3 : Option (Sum Int Nat)) (o4 : Option (Sum Int Nat)), EvF mtab d k_X4_jumpsOf 4 [some (.inr (.inr 162)), some (.inl p1), some (.inl s.1), some (.inl s.2), dv o3, dv o4] [] (SH L0, D) (some (.inl t0), (SH L0, D))) (X := fun r => ∀ (o15 : Option (Sum Int Nat)) (o16 : Option (Sum Int Nat)) (o17 : Option (Sum Int Nat)), EvF mtab d k_X4_jumpsOf 77 [some (.inr (.inr 162)), some (.inl p1), some (.inl r), dv o15, dv o16, dv o17] [] (SH L0, D) (some (.inl t0), (SH L0, D))) hr hX ?_ none none
  clear hr hX
  intro s t hb hK0
  obtain ⟨l2_1, l3_2⟩ := s
  intro o3 o4
  show EvF mtab d k_X4_jumpsOf 4 [some (.inr (.inr 162)), some (.inl p1), some (.inl l2_1), some (.inl l3_2), dv o3, dv o4] [] (SH L0, D) (some (.inl t0), (SH L0, D))
  unfold b_X4_jumpsOf_4 at hb
  obtain ⟨x5, hx, hb⟩ := bnd hb
  refine ev_bind hx 6 (pc' := 14) (L' := fun x5 => [some (.inr (.inr 162)), some (.inl p1), some (.inl l2_1), some (.inl l3_2), dv o3, dv o4]) (S' := fun x5 => [.inl x5, .inl l3_2]) (σ' := fun x5 => (SH L0, D)) (fun _ _ => rfl) ?_
  rcases ite_or hb with ⟨hc, hb⟩ | ⟨hc, hb⟩
  · refine ev_ift hc 1 (pc' := 17) (L' := [some (.inr (.inr 162)), some (.inl p1), some (.inl l2_1), some (.inl l3_2), dv o3, dv o4]) (S' := []) (σ' := (SH L0, D)) (fun _ _ => rfl) ?_
    obtain ⟨x6, hx, hb⟩ := bnd hb
    refine ev_call (e_X7_member_4 L0 d (by omega) hx) 5 (pc' := 26) (L' := [some (.inr (.inr 162)), some (.inl p1), some (.inl l2_1), some (.inl l3_2), dv o3, dv o4]) (S' := []) (fun _ _ => rfl) ?_
    obtain ⟨r, hr, hb⟩ := bnd hb
    have hX : (fun (r : Int) => ∀ (o13 : Option (Sum Int Nat)), EvF mtab d k_X4_jumpsOf 71 [some (.inr (.inr 162)), some (.inl p1), some (.inl r), some (.inl l3_2), some (.inl x6), dv o13] [] (SH L0, D) (some (.inl t0), (SH L0, D))) r := by
      obtain ⟨l2_12, hre⟩ : ∃ q, q = r := ⟨r, rfl⟩
      subst hre
      intro o13
      show EvF mtab d k_X4_jumpsOf 71 [some (.inr (.inr 162)), some (.inl p1), some (.inl l2_12), some (.inl l3_2), some (.inl x6), dv o13] [] (SH L0, D) (some (.inl t0), (SH L0, D))
      cases hb
      exact ev_go 2 (pc' := 4) (L' := [some (.inr (.inr 162)), some (.inl p1), some (.inl l2_12), some (.inl (w32 (l3_2 + 1))), some (.inl x6), dv o13]) (S' := []) (σ' := (SH L0, D)) (fun _ _ => rfl) (hK0 (some (.inl x6)) o13)
    clear hb
    refine ev_go 3 (pc' := 31) (L' := [some (.inr (.inr 162)), some (.inl p1), some (.inl l2_1), some (.inl l3_2), some (.inl x6), some (.inl 0)]) (S' := []) (σ' := (SH L0, D)) (fun _ _ => rfl) ?_
    refine loop_ind (P := fun s => EvF mtab d k_X4_jumpsOf 31 [some (.inr (.inr 162)), some (.inl p1), some (.inl s.1), some (.inl l3_2), some (.inl x6), some (.inl s.2)] [] (SH L0, D) (some (.inl t0), (SH L0, D))) (X := fun r => ∀ (o13 : Option (Sum Int Nat)), EvF mtab d k_X4_jumpsOf 71 [some (.inr (.inr 162)), some (.inl p1), some (.inl r), some (.inl l3_2), some (.inl x6), dv o13] [] (SH L0, D) (some (.inl t0), (SH L0, D))) hr hX ?_
    clear hr hX
    intro s t hb hK1
    obtain ⟨l2_7, l5_8⟩ := s
    show EvF mtab d k_X4_jumpsOf 31 [some (.inr (.inr 162)), some (.inl p1), some (.inl l2_7), some (.inl l3_2), some (.inl x6), some (.inl l5_8)] [] (SH L0, D) (some (.inl t0), (SH L0, D))
    unfold b_X4_jumpsOf_31 at hb
    obtain ⟨x9, hx, hb⟩ := bnd hb
    refine ev_call (e_X7_arcsOf L0 d (by omega) hx) 5 (pc' := 42) (L' := [some (.inr (.inr 162)), some (.inl p1), some (.inl l2_7), some (.inl l3_2), some (.inl x6), some (.inl l5_8)]) (S' := [.inl l5_8]) (fun _ _ => rfl) ?_
    rcases ite_or hb with ⟨hc, hb⟩ | ⟨hc, hb⟩
    · refine ev_ift hc 1 (pc' := 45) (L' := [some (.inr (.inr 162)), some (.inl p1), some (.inl l2_7), some (.inl l3_2), some (.inl x6), some (.inl l5_8)]) (S' := []) (σ' := (SH L0, D)) (fun _ _ => rfl) ?_
      obtain ⟨x10, hx, hb⟩ := bnd hb
      refine ev_bind hx 7 (pc' := 57) (L' := fun x10 => [some (.inr (.inr 162)), some (.inl p1), some (.inl l2_7), some (.inl l3_2), some (.inl x6), some (.inl l5_8)]) (S' := fun x10 => [.inl x10, .inr (.inr 162), .inl l2_7]) (σ' := fun x10 => (SH L0, D)) (fun _ _ => rfl) ?_
      obtain ⟨x11, hx, hb⟩ := bnd hb
      refine ev_call (e_X4_jumpsBy_162 L0 d (by omega) hx) 3 (pc' := 63) (L' := [some (.inr (.inr 162)), some (.inl p1), some (.inl l2_7), some (.inl l3_2), some (.inl x6), some (.inl l5_8)]) (S' := [.inl l2_7]) (fun _ _ => rfl) ?_
      cases hb
      exact ev_go 4 (pc' := 31) (L' := [some (.inr (.inr 162)), some (.inl p1), some (.inl (w32 (l2_7 + x11))), some (.inl l3_2), some (.inl x6), some (.inl (w32 (l5_8 + 1)))]) (S' := []) (σ' := (SH L0, D)) (fun _ _ => rfl) hK1
    · refine ev_iff hc 1 (pc' := 71) (L' := [some (.inr (.inr 162)), some (.inl p1), some (.inl l2_7), some (.inl l3_2), some (.inl x6), some (.inl l5_8)]) (S' := []) (σ' := (SH L0, D)) (fun _ _ => rfl) ?_
      cases hb
      exact hK1 (some (.inl l5_8))
  · refine ev_iff hc 1 (pc' := 77) (L' := [some (.inr (.inr 162)), some (.inl p1), some (.inl l2_1), some (.inl l3_2), dv o3, dv o4]) (S' := []) (σ' := (SH L0, D)) (fun _ _ => rfl) ?_
    cases hb
    exact hK0 (some (.inl l3_2)) o3 o4
set_option maxRecDepth 100000 in
set_option maxHeartbeats 4000000 in
theorem e_X4_jumpsOf_167 (L0 d : Nat) (hd : 4 ≤ d) {p1 : Int} {D : DT} {t0 : Int} (h : m_X4_jumpsOf 167 p1 D = some t0) : Ret mtab d 52 [.inr (.inr 167), .inl p1] (SH L0, D) (some (.inl t0), (SH L0, D)) := by
  obtain ⟨d, rfl⟩ : ∃ e, d = e + 1 := ⟨d - 1, by omega⟩
  refine Ret.of (code := k_X4_jumpsOf) (ml := 6) rfl ?_
  show EvF mtab d k_X4_jumpsOf 0 [some (.inr (.inr 167)), some (.inl p1), none, none, none, none] [] (SH L0, D) (some (.inl t0), (SH L0, D))
  unfold m_X4_jumpsOf at h
  obtain ⟨r, hr, h⟩ := bnd h
  have hX : (fun (r : Int) => ∀ (o15 : Option (Sum Int Nat)) (o16 : Option (Sum Int Nat)) (o17 : Option (Sum Int Nat)), EvF mtab d k_X4_jumpsOf 77 [some (.inr (.inr 167)), some (.inl p1), some (.inl r), dv o15, dv o16, dv o17] [] (SH L0, D) (some (.inl t0), (SH L0, D))) r := by
    obtain ⟨l2_14, hre⟩ : ∃ q, q = r := ⟨r, rfl⟩
    subst hre
    intro o15 o16 o17
    show EvF mtab d k_X4_jumpsOf 77 [some (.inr (.inr 167)), some (.inl p1), some (.inl l2_14), dv o15, dv o16, dv o17] [] (SH L0, D) (some (.inl t0), (SH L0, D))
    cases h
    exact ev_ret 2 (fun _ _ => rfl)
  clear h
  refine ev_go 4 (pc' := 4) (L' := [some (.inr (.inr 167)), some (.inl p1), some (.inl 0), some (.inl 0), none, none]) (S' := []) (σ' := (SH L0, D)) (fun _ _ => rfl) ?_
  refine loop_ind (P := fun s => ∀ (o3 : Option (Sum Int Nat)) (o4 : Option (Sum Int Nat)), EvF mtab d k_X4_jumpsOf 4 [some (.inr (.inr 167)), some (.inl p1), some (.inl s.1), some (.inl s.2), dv o3, dv o4] [] (SH L0, D) (some (.inl t0), (SH L0, D))) (X := fun r => ∀ (o15 : Option (Sum Int Nat)) (o16 : Option (Sum Int Nat)) (o17 : Option (Sum Int Nat)), EvF mtab d k_X4_jumpsOf 77 [some (.inr (.inr 167)), some (.inl p1), some (.inl r), dv o15, dv o16, dv o17] [] (SH L0, D) (some (.inl t0), (SH L0, D))) hr hX ?_ none none
  clear hr hX
  intro s t hb hK0
  obtain ⟨l2_1, l3_2⟩ := s
  intro o3 o4
  show EvF mtab d k_X4_jumpsOf 4 [some (.inr (.inr 167)), some (.inl p1), some (.inl l2_1), some (.inl l3_2), dv o3, dv o4] [] (SH L0, D) (some (.inl t0), (SH L0, D))
  unfold b_X4_jumpsOf_4 at hb
  obtain ⟨x5, hx, hb⟩ := bnd hb
  refine ev_bind hx 6 (pc' := 14) (L' := fun x5 => [some (.inr (.inr 167)), some (.inl p1), some (.inl l2_1), some (.inl l3_2), dv o3, dv o4]) (S' := fun x5 => [.inl x5, .inl l3_2]) (σ' := fun x5 => (SH L0, D)) (fun _ _ => rfl) ?_
  rcases ite_or hb with ⟨hc, hb⟩ | ⟨hc, hb⟩
  · refine ev_ift hc 1 (pc' := 17) (L' := [some (.inr (.inr 167)), some (.inl p1), some (.inl l2_1), some (.inl l3_2), dv o3, dv o4]) (S' := []) (σ' := (SH L0, D)) (fun _ _ => rfl) ?_
    obtain ⟨x6, hx, hb⟩ := bnd hb
    refine ev_call (e_X7_member_4 L0 d (by omega) hx) 5 (pc' := 26) (L' := [some (.inr (.inr 167)), some (.inl p1), some (.inl l2_1), some (.inl l3_2), dv o3, dv o4]) (S' := []) (fun _ _ => rfl) ?_
    obtain ⟨r, hr, hb⟩ := bnd hb
    have hX : (fun (r : Int) => ∀ (o13 : Option (Sum Int Nat)), EvF mtab d k_X4_jumpsOf 71 [some (.inr (.inr 167)), some (.inl p1), some (.inl r), some (.inl l3_2), some (.inl x6), dv o13] [] (SH L0, D) (some (.inl t0), (SH L0, D))) r := by
      obtain ⟨l2_12, hre⟩ : ∃ q, q = r := ⟨r, rfl⟩
      subst hre
      intro o13
      show EvF mtab d k_X4_jumpsOf 71 [some (.inr (.inr 167)), some (.inl p1), some (.inl l2_12), some (.inl l3_2), some (.inl x6), dv o13] [] (SH L0, D) (some (.inl t0), (SH L0, D))
      cases hb
      exact ev_go 2 (pc' := 4) (L' := [some (.inr (.inr 167)), some (.inl p1), some (.inl l2_12), some (.inl (w32 (l3_2 + 1))), some (.inl x6), dv o13]) (S' := []) (σ' := (SH L0, D)) (fun _ _ => rfl) (hK0 (some (.inl x6)) o13)
    clear hb
    refine ev_go 3 (pc' := 31) (L' := [some (.inr (.inr 167)), some (.inl p1), some (.inl l2_1), some (.inl l3_2), some (.inl x6), some (.inl 0)]) (S' := []) (σ' := (SH L0, D)) (fun _ _ => rfl) ?_
    refine loop_ind (P := fun s => EvF mtab d k_X4_jumpsOf 31 [some (.inr (.inr 167)), some (.inl p1), some (.inl s.1), some (.inl l3_2), some (.inl x6), some (.inl s.2)] [] (SH L0, D) (some (.inl t0), (SH L0, D))) (X := fun r => ∀ (o13 : Option (Sum Int Nat)), EvF mtab d k_X4_jumpsOf 71 [some (.inr (.inr 167)), some (.inl p1), some (.inl r), some (.inl l3_2), some (.inl x6), dv o13] [] (SH L0, D) (some (.inl t0), (SH L0, D))) hr hX ?_
    clear hr hX
    intro s t hb hK1
    obtain ⟨l2_7, l5_8⟩ := s
    show EvF mtab d k_X4_jumpsOf 31 [some (.inr (.inr 167)), some (.inl p1), some (.inl l2_7), some (.inl l3_2), some (.inl x6), some (.inl l5_8)] [] (SH L0, D) (some (.inl t0), (SH L0, D))
    unfold b_X4_jumpsOf_31 at hb
    obtain ⟨x9, hx, hb⟩ := bnd hb
    refine ev_call (e_X7_arcsOf L0 d (by omega) hx) 5 (pc' := 42) (L' := [some (.inr (.inr 167)), some (.inl p1), some (.inl l2_7), some (.inl l3_2), some (.inl x6), some (.inl l5_8)]) (S' := [.inl l5_8]) (fun _ _ => rfl) ?_
    rcases ite_or hb with ⟨hc, hb⟩ | ⟨hc, hb⟩
    · refine ev_ift hc 1 (pc' := 45) (L' := [some (.inr (.inr 167)), some (.inl p1), some (.inl l2_7), some (.inl l3_2), some (.inl x6), some (.inl l5_8)]) (S' := []) (σ' := (SH L0, D)) (fun _ _ => rfl) ?_
      obtain ⟨x10, hx, hb⟩ := bnd hb
      refine ev_bind hx 7 (pc' := 57) (L' := fun x10 => [some (.inr (.inr 167)), some (.inl p1), some (.inl l2_7), some (.inl l3_2), some (.inl x6), some (.inl l5_8)]) (S' := fun x10 => [.inl x10, .inr (.inr 167), .inl l2_7]) (σ' := fun x10 => (SH L0, D)) (fun _ _ => rfl) ?_
      obtain ⟨x11, hx, hb⟩ := bnd hb
      refine ev_call (e_X4_jumpsBy_167 L0 d (by omega) hx) 3 (pc' := 63) (L' := [some (.inr (.inr 167)), some (.inl p1), some (.inl l2_7), some (.inl l3_2), some (.inl x6), some (.inl l5_8)]) (S' := [.inl l2_7]) (fun _ _ => rfl) ?_
      cases hb
      exact ev_go 4 (pc' := 31) (L' := [some (.inr (.inr 167)), some (.inl p1), some (.inl (w32 (l2_7 + x11))), some (.inl l3_2), some (.inl x6), some (.inl (w32 (l5_8 + 1)))]) (S' := []) (σ' := (SH L0, D)) (fun _ _ => rfl) hK1
    · refine ev_iff hc 1 (pc' := 71) (L' := [some (.inr (.inr 167)), some (.inl p1), some (.inl l2_7), some (.inl l3_2), some (.inl x6), some (.inl l5_8)]) (S' := []) (σ' := (SH L0, D)) (fun _ _ => rfl) ?_
      cases hb
      exact hK1 (some (.inl l5_8))
  · refine ev_iff hc 1 (pc' := 77) (L' := [some (.inr (.inr 167)), some (.inl p1), some (.inl l2_1), some (.inl l3_2), dv o3, dv o4]) (S' := []) (σ' := (SH L0, D)) (fun _ _ => rfl) ?_
    cases hb
    exact hK0 (some (.inl l3_2)) o3 o4
set_option maxRecDepth 100000 in
set_option maxHeartbeats 4000000 in
theorem e_X4_jumpsOf_172 (L0 d : Nat) (hd : 4 ≤ d) {p1 : Int} {D : DT} {t0 : Int} (h : m_X4_jumpsOf 172 p1 D = some t0) : Ret mtab d 52 [.inr (.inr 172), .inl p1] (SH L0, D) (some (.inl t0), (SH L0, D)) := by
  obtain ⟨d, rfl⟩ : ∃ e, d = e + 1 := ⟨d - 1, by omega⟩
  refine Ret.of (code := k_X4_jumpsOf) (ml := 6) rfl ?_
  show EvF mtab d k_X4_jumpsOf 0 [some (.inr (.inr 172)), some (.inl p1), none, none, none, none] [] (SH L0, D) (some (.inl t0), (SH L0, D))
  unfold m_X4_jumpsOf at h
  obtain ⟨r, hr, h⟩ := bnd h
  have hX : (fun (r : Int) => ∀ (o15 : Option (Sum Int Nat)) (o16 : Option (Sum Int Nat)) (o17 : Option (Sum Int Nat)), EvF mtab d k_X4_jumpsOf 77 [some (.inr (.inr 172)), some (.inl p1), some (.inl r), dv o15, dv o16, dv o17] [] (SH L0, D) (some (.inl t0), (SH L0, D))) r := by
    obtain ⟨l2_14, hre⟩ : ∃ q, q = r := ⟨r, rfl⟩
    subst hre
    intro o15 o16 o17
    show EvF mtab d k_X4_jumpsOf 77 [some (.inr (.inr 172)), some (.inl p1), some (.inl l2_14), dv o15, dv o16, dv o17] [] (SH L0, D) (some (.inl t0), (SH L0, D))
    cases h
    exact ev_ret 2 (fun _ _ => rfl)
  clear h
  refine ev_go 4 (pc' := 4) (L' := [some (.inr (.inr 172)), some (.inl p1), some (.inl 0), some (.inl 0), none, none]) (S' := []) (σ' := (SH L0, D)) (fun _ _ => rfl) ?_
  refine loop_ind (P := fun s => ∀ (o3 : Option (Sum Int Nat)) (o4 : Option (Sum Int Nat)), EvF mtab d k_X4_jumpsOf 4 [some (.inr (.inr 172)), some (.inl p1), some (.inl s.1), some (.inl s.2), dv o3, dv o4] [] (SH L0, D) (some (.inl t0), (SH L0, D))) (X := fun r => ∀ (o15 : Option (Sum Int Nat)) (o16 : Option (Sum Int Nat)) (o17 : Option (Sum Int Nat)), EvF mtab d k_X4_jumpsOf 77 [some (.inr (.inr 172)), some (.inl p1), some (.inl r), dv o15, dv o16, dv o17] [] (SH L0, D) (some (.inl t0), (SH L0, D))) hr hX ?_ none none
  clear hr hX
  intro s t hb hK0
  obtain ⟨l2_1, l3_2⟩ := s
  intro o3 o4
  show EvF mtab d k_X4_jumpsOf 4 [some (.inr (.inr 172)), some (.inl p1), some (.inl l2_1), some (.inl l3_2), dv o3, dv o4] [] (SH L0, D) (some (.inl t0), (SH L0, D))
  unfold b_X4_jumpsOf_4 at hb
  obtain ⟨x5, hx, hb⟩ := bnd hb
  refine ev_bind hx 6 (pc' := 14) (L' := fun x5 => [some (.inr (.inr 172)), some (.inl p1), some (.inl l2_1), some (.inl l3_2), dv o3, dv o4]) (S' := fun x5 => [.inl x5, .inl l3_2]) (σ' := fun x5 => (SH L0, D)) (fun _ _ => rfl) ?_
  rcases ite_or hb with ⟨hc, hb⟩ | ⟨hc, hb⟩
  · refine ev_ift hc 1 (pc' := 17) (L' := [some (.inr (.inr 172)), some (.inl p1), some (.inl l2_1), some (.inl l3_2), dv o3, dv o4]) (S' := []) (σ' := (SH L0, D)) (fun _ _ => rfl) ?_
    obtain ⟨x6, hx, hb⟩ := bnd hb
    refine ev_call (e_X7_member_4 L0 d (by omega) hx) 5 (pc' := 26) (L' := [some (.inr (.inr 172)), some (.inl p1), some (.inl l2_1), some (.inl l3_2), dv o3, dv o4]) (S' := []) (fun _ _ => rfl) ?_
    obtain ⟨r, hr, hb⟩ := bnd hb
    have hX : (fun (r : Int) => ∀ (o13 : Option (Sum Int Nat)), EvF mtab d k_X4_jumpsOf 71 [some (.inr (.inr 172)), some (.inl p1), some (.inl r), some (.inl l3_2), some (.inl x6), dv o13] [] (SH L0, D) (some (.inl t0), (SH L0, D))) r := by
      obtain ⟨l2_12, hre⟩ : ∃ q, q = r := ⟨r, rfl⟩
      subst hre
      intro o13
      show EvF mtab d k_X4_jumpsOf 71 [some (.inr (.inr 172)), some (.inl p1), some (.inl l2_12), some (.inl l3_2), some (.inl x6), dv o13] [] (SH L0, D) (some (.inl t0), (SH L0, D))
      cases hb
      exact ev_go 2 (pc' := 4) (L' := [some (.inr (.inr 172)), some (.inl p1), some (.inl l2_12), some (.inl (w32 (l3_2 + 1))), some (.inl x6), dv o13]) (S' := []) (σ' := (SH L0, D)) (fun _ _ => rfl) (hK0 (some (.inl x6)) o13)
    clear hb
    refine ev_go 3 (pc' := 31) (L' := [some (.inr (.inr 172)), some (.inl p1), some (.inl l2_1), some (.inl l3_2), some (.inl x6), some (.inl 0)]) (S' := []) (σ' := (SH L0, D)) (fun _ _ => rfl) ?_
    refine loop_ind (P := fun s => EvF mtab d k_X4_jumpsOf 31 [some (.inr (.inr 172)), some (.inl p1), some (.inl s.1), some (.inl l3_2), some (.inl x6), some (.inl s.2)] [] (SH L0, D) (some (.inl t0), (SH L0, D))) (X := fun r => ∀ (o13 : Option (Sum Int Nat)), EvF mtab d k_X4_jumpsOf 71 [some (.inr (.inr 172)), some (.inl p1), some (.inl r), some (.inl l3_2), some (.inl x6), dv o13] [] (SH L0, D) (some (.inl t0), (SH L0, D))) hr hX ?_
    clear hr hX
    intro s t hb hK1
    obtain ⟨l2_7, l5_8⟩ := s
    show EvF mtab d k_X4_jumpsOf 31 [some (.inr (.inr 172)), some (.inl p1), some (.inl l2_7), some (.inl l3_2), some (.inl x6), some (.inl l5_8)] [] (SH L0, D) (some (.inl t0), (SH L0, D))
    unfold b_X4_jumpsOf_31 at hb
    obtain ⟨x9, hx, hb⟩ := bnd hb
    refine ev_call (e_X7_arcsOf L0 d (by omega) hx) 5 (pc' := 42) (L' := [some (.inr (.inr 172)), some (.inl p1), some (.inl l2_7), some (.inl l3_2), some (.inl x6), some (.inl l5_8)]) (S' := [.inl l5_8]) (fun _ _ => rfl) ?_
    rcases ite_or hb with ⟨hc, hb⟩ | ⟨hc, hb⟩
    · refine ev_ift hc 1 (pc' := 45) (L' := [some (.inr (.inr 172)), some (.inl p1), some (.inl l2_7), some (.inl l3_2), some (.inl x6), some (.inl l5_8)]) (S' := []) (σ' := (SH L0, D)) (fun _ _ => rfl) ?_
      obtain ⟨x10, hx, hb⟩ := bnd hb
      refine ev_bind hx 7 (pc' := 57) (L' := fun x10 => [some (.inr (.inr 172)), some (.inl p1), some (.inl l2_7), some (.inl l3_2), some (.inl x6), some (.inl l5_8)]) (S' := fun x10 => [.inl x10, .inr (.inr 172), .inl l2_7]) (σ' := fun x10 => (SH L0, D)) (fun _ _ => rfl) ?_
      obtain ⟨x11, hx, hb⟩ := bnd hb
      refine ev_call (e_X4_jumpsBy_172 L0 d (by omega) hx) 3 (pc' := 63) (L' := [some (.inr (.inr 172)), some (.inl p1), some (.inl l2_7), some (.inl l3_2), some (.inl x6), some (.inl l5_8)]) (S' := [.inl l2_7]) (fun _ _ => rfl) ?_
      cases hb
      exact ev_go 4 (pc' := 31) (L' := [some (.inr (.inr 172)), some (.inl p1), some (.inl (w32 (l2_7 + x11))), some (.inl l3_2), some (.inl x6), some (.inl (w32 (l5_8 + 1)))]) (S' := []) (σ' := (SH L0, D)) (fun _ _ => rfl) hK1
    · refine ev_iff hc 1 (pc' := 71) (L' := [some (.inr (.inr 172)), some (.inl p1), some (.inl l2_7), some (.inl l3_2), some (.inl x6), some (.inl l5_8)]) (S' := []) (σ' := (SH L0, D)) (fun _ _ => rfl) ?_
      cases hb
      exact hK1 (some (.inl l5_8))
  · refine ev_iff hc 1 (pc' := 77) (L' := [some (.inr (.inr 172)), some (.inl p1), some (.inl l2_1), some (.inl l3_2), dv o3, dv o4]) (S' := []) (σ' := (SH L0, D)) (fun _ _ => rfl) ?_
    cases hb
    exact hK0 (some (.inl l3_2)) o3 o4
set_option maxRecDepth 100000 in
set_option maxHeartbeats 4000000 in
theorem e_X4_jumpsOf_177 (L0 d : Nat) (hd : 4 ≤ d) {p1 : Int} {D : DT} {t0 : Int} (h : m_X4_jumpsOf 177 p1 D = some t0) : Ret mtab d 52 [.inr (.inr 177), .inl p1] (SH L0, D) (some (.inl t0), (SH L0, D)) := by
  obtain ⟨d, rfl⟩ : ∃ e, d = e + 1 := ⟨d - 1, by omega⟩
  refine Ret.of (code := k_X4_jumpsOf) (ml := 6) rfl ?_
  show EvF mtab d k_X4_jumpsOf 0 [some (.inr (.inr 177)), some (.inl p1), none, none, none, none] [] (SH L0, D) (some (.inl t0), (SH L0, D))
  unfold m_X4_jumpsOf at h
  obtain ⟨r, hr, h⟩ := bnd h
  have hX : (fun (r : Int) => ∀ (o15 : Option (Sum Int Nat)) (o16 : Option (Sum Int Nat)) (o17 : Option (Sum Int Nat)), EvF mtab d k_X4_jumpsOf 77 [some (.inr (.inr 177)), some (.inl p1), some (.inl r), dv o15, dv o16, dv o17] [] (SH L0, D) (some (.inl t0), (SH L0, D))) r := by
    obtain ⟨l2_14, hre⟩ : ∃ q, q = r := ⟨r, rfl⟩
    subst hre
    intro o15 o16 o17
    show EvF mtab d k_X4_jumpsOf 77 [some (.inr (.inr 177)), some (.inl p1), some (.inl l2_14), dv o15, dv o16, dv o17] [] (SH L0, D) (some (.inl t0), (SH L0, D))
    cases h
    exact ev_ret 2 (fun _ _ => rfl)
  clear h
  refine ev_go 4 (pc' := 4) (L' := [some (.inr (.inr 177)), some (.inl p1), some (.inl 0), some (.inl 0), none, none]) (S' := []) (σ' := (SH L0, D)) (fun _ _ => rfl) ?_
  refine loop_ind (P := fun s => ∀ (o3 : Option (Sum Int Nat)) (o4 : Option (Sum Int Nat)), EvF mtab d k_X4_jumpsOf 4 [some (.inr (.inr 177)), some (.inl p1), some (.inl s.1), some (.inl s.2), dv o3, dv o4] [] (SH L0, D) (some (.inl t0), (SH L0, D))) (X := fun r => ∀ (o15 : Option (Sum Int Nat)) (o16 : Option (Sum Int Nat)) (o17 : Option (Sum Int Nat)), EvF mtab d k_X4_jumpsOf 77 [some (.inr (.inr 177)), some (.inl p1), some (.inl r), dv o15, dv o16, dv o17] [] (SH L0, D) (some (.inl t0), (SH L0, D))) hr hX ?_ none none
  clear hr hX
  intro s t hb hK0
  obtain ⟨l2_1, l3_2⟩ := s
  intro o3 o4
  show EvF mtab d k_X4_jumpsOf 4 [some (.inr (.inr 177)), some (.inl p1), some (.inl l2_1), some (.inl l3_2), dv o3, dv o4] [] (SH L0, D) (some (.inl t0), (SH L0, D))
  unfold b_X4_jumpsOf_4 at hb
  obtain ⟨x5, hx, hb⟩ := bnd hb
  refine ev_bind hx 6 (pc' := 14) (L' := fun x5 => [some (.inr (.inr 177)), some (.inl p1), some (.inl l2_1), some (.inl l3_2), dv o3, dv o4]) (S' := fun x5 => [.inl x5, .inl l3_2]) (σ' := fun x5 => (SH L0, D)) (fun _ _ => rfl) ?_
  rcases ite_or hb with ⟨hc, hb⟩ | ⟨hc, hb⟩
  · refine ev_ift hc 1 (pc' := 17) (L' := [some (.inr (.inr 177)), some (.inl p1), some (.inl l2_1), some (.inl l3_2), dv o3, dv o4]) (S' := []) (σ' := (SH L0, D)) (fun _ _ => rfl) ?_
    obtain ⟨x6, hx, hb⟩ := bnd hb
    refine ev_call (e_X7_member_4 L0 d (by omega) hx) 5 (pc' := 26) (L' := [some (.inr (.inr 177)), some (.inl p1), some (.inl l2_1), some (.inl l3_2), dv o3, dv o4]) (S' := []) (fun _ _ => rfl) ?_
    obtain ⟨r, hr, hb⟩ := bnd hb
    have hX : (fun (r : Int) => ∀ (o13 : Option (Sum Int Nat)), EvF mtab d k_X4_jumpsOf 71 [some (.inr (.inr 177)), some (.inl p1), some (.inl r), some (.inl l3_2), some (.inl x6), dv o13] [] (SH L0, D) (some (.inl t0), (SH L0, D))) r := by
      obtain ⟨l2_12, hre⟩ : ∃ q, q = r := ⟨r, rfl⟩
      subst hre
      intro o13
      show EvF mtab d k_X4_jumpsOf 71 [some (.inr (.inr 177)), some (.inl p1), some (.inl l2_12), some (.inl l3_2), some (.inl x6), dv o13] [] (SH L0, D) (some (.inl t0), (SH L0, D))
      cases hb
      exact ev_go 2 (pc' := 4) (L' := [some (.inr (.inr 177)), some (.inl p1), some (.inl l2_12), some (.inl (w32 (l3_2 + 1))), some (.inl x6), dv o13]) (S' := []) (σ' := (SH L0, D)) (fun _ _ => rfl) (hK0 (some (.inl x6)) o13)
    clear hb
    refine ev_go 3 (pc' := 31) (L' := [some (.inr (.inr 177)), some (.inl p1), some (.inl l2_1), some (.inl l3_2), some (.inl x6), some (.inl 0)]) (S' := []) (σ' := (SH L0, D)) (fun _ _ => rfl) ?_
    refine loop_ind (P := fun s => EvF mtab d k_X4_jumpsOf 31 [some (.inr (.inr 177)), some (.inl p1), some (.inl s.1), some (.inl l3_2), some (.inl x6), some (.inl s.2)] [] (SH L0, D) (some (.inl t0), (SH L0, D))) (X := fun r => ∀ (o13 : Option (Sum Int Nat)), EvF mtab d k_X4_jumpsOf 71 [some (.inr (.inr 177)), some (.inl p1), some (.inl r), some (.inl l3_2), some (.inl x6), dv o13] [] (SH L0, D) (some (.inl t0), (SH L0, D))) hr hX ?_
    clear hr hX
    intro s t hb hK1
    obtain ⟨l2_7, l5_8⟩ := s
    show EvF mtab d k_X4_jumpsOf 31 [some (.inr (.inr 177)), some (.inl p1), some (.inl l2_7), some (.inl l3_2), some (.inl x6), some (.inl l5_8)] [] (SH L0, D) (some (.inl t0), (SH L0, D))
    unfold b_X4_jumpsOf_31 at hb
    obtain ⟨x9, hx, hb⟩ := bnd hb
    refine ev_call (e_X7_arcsOf L0 d (by omega) hx) 5 (pc' := 42) (L' := [some (.inr (.inr 177)), some (.inl p1), some (.inl l2_7), some (.inl l3_2), some (.inl x6), some (.inl l5_8)]) (S' := [.inl l5_8]) (fun _ _ => rfl) ?_
    rcases ite_or hb with ⟨hc, hb⟩ | ⟨hc, hb⟩
    · refine ev_ift hc 1 (pc' := 45) (L' := [some (.inr (.inr 177)), some (.inl p1), some (.inl l2_7), some (.inl l3_2), some (.inl x6), some (.inl l5_8)]) (S' := []) (σ' := (SH L0, D)) (fun _ _ => rfl) ?_
      obtain ⟨x10, hx, hb⟩ := bnd hb
      refine ev_bind hx 7 (pc' := 57) (L' := fun x10 => [some (.inr (.inr 177)), some (.inl p1), some (.inl l2_7), some (.inl l3_2), some (.inl x6), some (.inl l5_8)]) (S' := fun x10 => [.inl x10, .inr (.inr 177), .inl l2_7]) (σ' := fun x10 => (SH L0, D)) (fun _ _ => rfl) ?_
      obtain ⟨x11, hx, hb⟩ := bnd hb
      refine ev_call (e_X4_jumpsBy_177 L0 d (by omega) hx) 3 (pc' := 63) (L' := [some (.inr (.inr 177)), some (.inl p1), some (.inl l2_7), some (.inl l3_2), some (.inl x6), some (.inl l5_8)]) (S' := [.inl l2_7]) (fun _ _ => rfl) ?_
      cases hb
      exact ev_go 4 (pc' := 31) (L' := [some (.inr (.inr 177)), some (.inl p1), some (.inl (w32 (l2_7 + x11))), some (.inl l3_2), some (.inl x6), some (.inl (w32 (l5_8 + 1)))]) (S' := []) (σ' := (SH L0, D)) (fun _ _ => rfl) hK1
    · refine ev_iff hc 1 (pc' := 71) (L' := [some (.inr (.inr 177)), some (.inl p1), some (.inl l2_7), some (.inl l3_2), some (.inl x6), some (.inl l5_8)]) (S' := []) (σ' := (SH L0, D)) (fun _ _ => rfl) ?_
      cases hb
      exact hK1 (some (.inl l5_8))
  · refine ev_iff hc 1 (pc' := 77) (L' := [some (.inr (.inr 177)), some (.inl p1), some (.inl l2_1), some (.inl l3_2), dv o3, dv o4]) (S' := []) (σ' := (SH L0, D)) (fun _ _ => rfl) ?_
    cases hb
    exact hK0 (some (.inl l3_2)) o3 o4
set_option maxRecDepth 100000 in
set_option maxHeartbeats 4000000 in
theorem e_X4_jumpsOf_182 (L0 d : Nat) (hd : 4 ≤ d) {p1 : Int} {D : DT} {t0 : Int} (h : m_X4_jumpsOf 182 p1 D = some t0) : Ret mtab d 52 [.inr (.inr 182), .inl p1] (SH L0, D) (some (.inl t0), (SH L0, D)) := by
  obtain ⟨d, rfl⟩ : ∃ e, d = e + 1 := ⟨d - 1, by omega⟩
  refine Ret.of (code := k_X4_jumpsOf) (ml := 6) rfl ?_
  show EvF mtab d k_X4_jumpsOf 0 [some (.inr (.inr 182)), some (.inl p1), none, none, none, none] [] (SH L0, D) (some (.inl t0), (SH L0, D))
  unfold m_X4_jumpsOf at h
  obtain ⟨r, hr, h⟩ := bnd h
  have hX : (fun (r : Int) => ∀ (o15 : Option (Sum Int Nat)) (o16 : Option (Sum Int Nat)) (o17 : Option (Sum Int Nat)), EvF mtab d k_X4_jumpsOf 77 [some (.inr (.inr 182)), some (.inl p1), some (.inl r), dv o15, dv o16, dv o17] [] (SH L0, D) (some (.inl t0), (SH L0, D))) r := by
    obtain ⟨l2_14, hre⟩ : ∃ q, q = r := ⟨r, rfl⟩
    subst hre
    intro o15 o16 o17
    show EvF mtab d k_X4_jumpsOf 77 [some (.inr (.inr 182)), some (.inl p1), some (.inl l2_14), dv o15, dv o16, dv o17] [] (SH L0, D) (some (.inl t0), (SH L0, D))
    cases h
    exact ev_ret 2 (fun _ _ => rfl)
  clear h
  refine ev_go 4 (pc' := 4) (L' := [some (.inr (.inr 182)), some (.inl p1), some (.inl 0), some (.inl 0), none, none]) (S' := []) (σ' := (SH L0, D)) (fun _ _ => rfl) ?_
  refine loop_ind (P := fun s => ∀ (o3 : Option (Sum Int Nat)) (o4 : Option (Sum Int Nat)), EvF mtab d k_X4_jumpsOf 4 [some (.inr (.inr 182)), some (.inl p1), some (.inl s.1), some (.inl s.2), dv o3, dv o4] [] (SH L0, D) (some (.inl t0), (SH L0, D))) (X := fun r => ∀ (o15 : Option (Sum Int Nat)) (o16 : Option (Sum Int Nat)) (o17 : Option (Sum Int Nat)), EvF mtab d k_X4_jumpsOf 77 [some (.inr (.inr 182)), some (.inl p1), some (.inl r), dv o15, dv o16, dv o17] [] (SH L0, D) (some (.inl t0), (SH L0, D))) hr hX ?_ none none
  clear hr hX
  intro s t hb hK0
  obtain ⟨l2_1, l3_2⟩ := s
  intro o3 o4
  show EvF mtab d k_X4_jumpsOf 4 [some (.inr (.inr 182)), some (.inl p1), some (.inl l2_1), some (.inl l3_2), dv o3, dv o4] [] (SH L0, D) (some (.inl t0), (SH L0, D))
  unfold b_X4_jumpsOf_4 at hb
  obtain ⟨x5, hx, hb⟩ := bnd hb
  refine ev_bind hx 6 (pc' := 14) (L' := fun x5 => [some (.inr (.inr 182)), some (.inl p1), some (.inl l2_1), some (.inl l3_2), dv o3, dv o4]) (S' := fun x5 => [.inl x5, .inl l3_2]) (σ' := fun x5 => (SH L0, D)) (fun _ _ => rfl) ?_
  rcases ite_or hb with ⟨hc, hb⟩ | ⟨hc, hb⟩
  · refine ev_ift hc 1 (pc' := 17) (L' := [some (.inr (.inr 182)), some (.inl p1), some (.inl l2_1), some (.inl l3_2), dv o3, dv o4]) (S' := []) (σ' := (SH L0, D)) (fun _ _ => rfl) ?_
    obtain ⟨x6, hx, hb⟩ := bnd hb
    refine ev_call (e_X7_member_4 L0 d (by omega) hx) 5 (pc' := 26) (L' := [some (.inr (.inr 182)), some (.inl p1), some (.inl l2_1), some (.inl l3_2), dv o3, dv o4]) (S' := []) (fun _ _ => rfl) ?_
    obtain ⟨r, hr, hb⟩ := bnd hb
    have hX : (fun (r : Int) => ∀ (o13 : Option (Sum Int Nat)), EvF mtab d k_X4_jumpsOf 71 [some (.inr (.inr 182)), some (.inl p1), some (.inl r), some (.inl l3_2), some (.inl x6), dv o13] [] (SH L0, D) (some (.inl t0), (SH L0, D))) r := by
      obtain ⟨l2_12, hre⟩ : ∃ q, q = r := ⟨r, rfl⟩
      subst hre
      intro o13
      show EvF mtab d k_X4_jumpsOf 71 [some (.inr (.inr 182)), some (.inl p1), some (.inl l2_12), some (.inl l3_2), some (.inl x6), dv o13] [] (SH L0, D) (some (.inl t0), (SH L0, D))
      cases hb
      exact ev_go 2 (pc' := 4) (L' := [some (.inr (.inr 182)), some (.inl p1), some (.inl l2_12), some (.inl (w32 (l3_2 + 1))), some (.inl x6), dv o13]) (S' := []) (σ' := (SH L0, D)) (fun _ _ => rfl) (hK0 (some (.inl x6)) o13)
    clear hb
    refine ev_go 3 (pc' := 31) (L' := [some (.inr (.inr 182)), some (.inl p1), some (.inl l2_1), some (.inl l3_2), some (.inl x6), some (.inl 0)]) (S' := []) (σ' := (SH L0, D)) (fun _ _ => rfl) ?_
    refine loop_ind (P := fun s => EvF mtab d k_X4_jumpsOf 31 [some (.inr (.inr 182)), some (.inl p1), some (.inl s.1), some (.inl l3_2), some (.inl x6), some (.inl s.2)] [] (SH L0, D) (some (.inl t0), (SH L0, D))) (X := fun r => ∀ (o13 : Option (Sum Int Nat)), EvF mtab d k_X4_jumpsOf 71 [some (.inr (.inr 182)), some (.inl p1), some (.inl r), some (.inl l3_2), some (.inl x6), dv o13] [] (SH L0, D) (some (.inl t0), (SH L0, D))) hr hX ?_
    clear hr hX
    intro s t hb hK1
    obtain ⟨l2_7, l5_8⟩ := s
    show EvF mtab d k_X4_jumpsOf 31 [some (.inr (.inr 182)), some (.inl p1), some (.inl l2_7), some (.inl l3_2), some (.inl x6), some (.inl l5_8)] [] (SH L0, D) (some (.inl t0), (SH L0, D))
    unfold b_X4_jumpsOf_31 at hb
    obtain ⟨x9, hx, hb⟩ := bnd hb
    refine ev_call (e_X7_arcsOf L0 d (by omega) hx) 5 (pc' := 42) (L' := [some (.inr (.inr 182)), some (.inl p1), some (.inl l2_7), some (.inl l3_2), some (.inl x6), some (.inl l5_8)]) (S' := [.inl l5_8]) (fun _ _ => rfl) ?_
    rcases ite_or hb with ⟨hc, hb⟩ | ⟨hc, hb⟩
    · refine ev_ift hc 1 (pc' := 45) (L' := [some (.inr (.inr 182)), some (.inl p1), some (.inl l2_7), some (.inl l3_2), some (.inl x6), some (.inl l5_8)]) (S' := []) (σ' := (SH L0, D)) (fun _ _ => rfl) ?_
      obtain ⟨x10, hx, hb⟩ := bnd hb
      refine ev_bind hx 7 (pc' := 57) (L' := fun x10 => [some (.inr (.inr 182)), some (.inl p1), some (.inl l2_7), some (.inl l3_2), some (.inl x6), some (.inl l5_8)]) (S' := fun x10 => [.inl x10, .inr (.inr 182), .inl l2_7]) (σ' := fun x10 => (SH L0, D)) (fun _ _ => rfl) ?_
      obtain ⟨x11, hx, hb⟩ := bnd hb
      refine ev_call (e_X4_jumpsBy_182 L0 d (by omega) hx) 3 (pc' := 63) (L' := [some (.inr (.inr 182)), some (.inl p1), some (.inl l2_7), some (.inl l3_2), some (.inl x6), some (.inl l5_8)]) (S' := [.inl l2_7]) (fun _ _ => rfl) ?_
      cases hb
      exact ev_go 4 (pc' := 31) (L' := [some (.inr (.inr 182)), some (.inl p1), some (.inl (w32 (l2_7 + x11))), some (.inl l3_2), some (.inl x6), some (.inl (w32 (l5_8 + 1)))]) (S' := []) (σ' := (SH L0, D)) (fun _ _ => rfl) hK1
    · refine ev_iff hc 1 (pc' := 71) (L' := [some (.inr (.inr 182)), some (.inl p1), some (.inl l2_7), some (.inl l3_2), some (.inl x6), some (.inl l5_8)]) (S' := []) (σ' := (SH L0, D)) (fun _ _ => rfl) ?_
      cases hb
      exact hK1 (some (.inl l5_8))
  · refine ev_iff hc 1 (pc' := 77) (L' := [some (.inr (.inr 182)), some (.inl p1), some (.inl l2_1), some (.inl l3_2), dv o3, dv o4]) (S' := []) (σ' := (SH L0, D)) (fun _ _ => rfl) ?_
    cases hb
    exact hK0 (some (.inl l3_2)) o3 o4
