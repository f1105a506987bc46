set_option maxRecDepth 100000 in
set_option maxHeartbeats 4000000 in
theorem e_X10_leave_155_167 (L0 d : Nat) (hd : 3 ≤ d) {p2 : Int} {D : DT} {t0 : DT} (h : m_X10_leave 167 p2 D = some t0) : Ret mtab d 124 [.inr (.inr 155), .inr (.inr 167), .inl p2] (SH L0, D) (none, (SH L0, t0)) := by
  obtain ⟨d, rfl⟩ : ∃ e, d = e + 1 := ⟨d - 1, by omega⟩
  refine Ret.of (code := k_X10_leave) (ml := 4) rfl ?_
  show EvF mtab d k_X10_leave 0 [some (.inr (.inr 155)), some (.inr (.inr 167)), some (.inl p2), none] [] (SH L0, D) (none, (SH L0, t0))
  unfold m_X10_leave at h
  obtain ⟨x1, hx, h⟩ := bnd h
  refine ev_bind hx 5 (pc' := 9) (L' := fun x1 => [some (.inr (.inr 155)), some (.inr (.inr 167)), some (.inl p2), none]) (S' := fun x1 => [.inl x1]) (σ' := fun x1 => (SH L0, D)) (fun _ _ => rfl) ?_
  obtain ⟨x2, hx, h⟩ := bnd h
  refine ev_bind hx 6 (pc' := 19) (L' := fun x2 => [some (.inr (.inr 155)), some (.inr (.inr 167)), some (.inl p2), some (.inl x1)]) (S' := fun x2 => [.inl x2]) (σ' := fun x2 => (SH L0, D)) (fun _ _ => rfl) ?_
  obtain ⟨⟨l3_5, D6⟩, hv, h⟩ := bnd h
  have hJ : EvF mtab d k_X10_leave 34 [some (.inr (.inr 155)), some (.inr (.inr 167)), some (.inl p2), some (.inl l3_5)] [] (SH L0, D6) (none, (SH L0, t0)) := by
    obtain ⟨x7, hx, h⟩ := bnd h
    refine ev_call (e_X4_isFall_167 L0 d (by omega) hx) 3 (pc' := 39) (L' := [some (.inr (.inr 155)), some (.inr (.inr 167)), some (.inl p2), some (.inl l3_5)]) (S' := []) (fun _ _ => rfl) ?_
    obtain ⟨D8, hv, h⟩ := bnd h
    have hJ : EvF mtab d k_X10_leave 52 [some (.inr (.inr 155)), some (.inr (.inr 167)), some (.inl p2), some (.inl l3_5)] [] (SH L0, D8) (none, (SH L0, t0)) := by
      obtain ⟨x9, hx, h⟩ := bnd h
      refine ev_bind hx 6 (pc' := 62) (L' := fun x9 => [some (.inr (.inr 155)), some (.inr (.inr 167)), some (.inl p2), some (.inl l3_5)]) (S' := fun x9 => [.inl x9, .inr (.inr 155)]) (σ' := fun x9 => (SH L0, D8)) (fun _ _ => rfl) ?_
      obtain ⟨D10, hx, h⟩ := bnd h
      refine ev_call (e_X10_enter L0 d (by omega) hx) 1 (pc' := 65) (L' := [some (.inr (.inr 155)), some (.inr (.inr 167)), some (.inl p2), some (.inl l3_5)]) (S' := []) (fun _ _ => rfl) ?_
      cases h
      exact ev_ret 1 (fun _ _ => rfl)
    clear h
    rcases ite_or hv with ⟨hc, hv⟩ | ⟨hc, hv⟩
    · refine ev_ift hc 1 (pc' := 42) (L' := [some (.inr (.inr 155)), some (.inr (.inr 167)), some (.inl p2), some (.inl l3_5)]) (S' := []) (σ' := (SH L0, D6)) (fun _ _ => rfl) ?_
      have he0 := Option.some.inj hv
      subst he0
      exact ev_go 6 (pc' := 52) (L' := [some (.inr (.inr 155)), some (.inr (.inr 167)), some (.inl p2), some (.inl l3_5)]) (S' := []) (σ' := (SH L0, dput D6 155 2 (w32 ((D6 155 2) + 1)))) (fun _ _ => rfl) hJ
    · refine ev_iff hc 1 (pc' := 52) (L' := [some (.inr (.inr 155)), some (.inr (.inr 167)), some (.inl p2), some (.inl l3_5)]) (S' := []) (σ' := (SH L0, D6)) (fun _ _ => rfl) ?_
      have he0 := Option.some.inj hv
      subst he0
      exact hJ
  clear h
  rcases ite_or hv with ⟨hc, hv⟩ | ⟨hc, hv⟩
  · refine ev_ift hc 2 (pc' := 23) (L' := [some (.inr (.inr 155)), some (.inr (.inr 167)), some (.inl p2), some (.inl x1)]) (S' := []) (σ' := (SH L0, D)) (fun _ _ => rfl) ?_
    obtain ⟨⟨x3, D4⟩, hx, hv⟩ := bnd hv
    refine ev_call (e_X10_isFirst L0 d (by omega) hx) 3 (pc' := 28) (L' := [some (.inr (.inr 155)), some (.inr (.inr 167)), some (.inl p2), some (.inl x1)]) (S' := []) (fun _ _ => rfl) ?_
    rcases ite_or hv with ⟨hc, hv⟩ | ⟨hc, hv⟩
    · refine ev_ift hc 1 (pc' := 31) (L' := [some (.inr (.inr 155)), some (.inr (.inr 167)), some (.inl p2), some (.inl x1)]) (S' := []) (σ' := (SH L0, D4)) (fun _ _ => rfl) ?_
      have he0 := Option.some.inj hv
      obtain ⟨ha0, he1⟩ := Prod.mk.inj he0
      clear he0
      subst ha0
      subst he1
      exact ev_go 1 (pc' := 34) (L' := [some (.inr (.inr 155)), some (.inr (.inr 167)), some (.inl p2), some (.inl (w32 (x1 + 1)))]) (S' := []) (σ' := (SH L0, D4)) (fun _ _ => rfl) hJ
    · refine ev_iff hc 1 (pc' := 34) (L' := [some (.inr (.inr 155)), some (.inr (.inr 167)), some (.inl p2), some (.inl x1)]) (S' := []) (σ' := (SH L0, D4)) (fun _ _ => rfl) ?_
      have he0 := Option.some.inj hv
      obtain ⟨ha0, he1⟩ := Prod.mk.inj he0
      clear he0
      subst ha0
      subst he1
      exact hJ
  · refine ev_iff hc 2 (pc' := 34) (L' := [some (.inr (.inr 155)), some (.inr (.inr 167)), some (.inl p2), some (.inl x1)]) (S' := []) (σ' := (SH L0, D)) (fun _ _ => rfl) ?_
    have he0 := Option.some.inj hv
    obtain ⟨ha0, he1⟩ := Prod.mk.inj he0
    clear he0
    subst ha0
    subst he1
    exact hJ
set_option maxRecDepth 100000 in
set_option maxHeartbeats 4000000 in
theorem e_X10_leave_155_172 (L0 d : Nat) (hd : 3 ≤ d) {p2 : Int} {D : DT} {t0 : DT} (h : m_X10_leave 172 p2 D = some t0) : Ret mtab d 124 [.inr (.inr 155), .inr (.inr 172), .inl p2] (SH L0, D) (none, (SH L0, t0)) := by
  obtain ⟨d, rfl⟩ : ∃ e, d = e + 1 := ⟨d - 1, by omega⟩
  refine Ret.of (code := k_X10_leave) (ml := 4) rfl ?_
  show EvF mtab d k_X10_leave 0 [some (.inr (.inr 155)), some (.inr (.inr 172)), some (.inl p2), none] [] (SH L0, D) (none, (SH L0, t0))
  unfold m_X10_leave at h
  obtain ⟨x1, hx, h⟩ := bnd h
  refine ev_bind hx 5 (pc' := 9) (L' := fun x1 => [some (.inr (.inr 155)), some (.inr (.inr 172)), some (.inl p2), none]) (S' := fun x1 => [.inl x1]) (σ' := fun x1 => (SH L0, D)) (fun _ _ => rfl) ?_
  obtain ⟨x2, hx, h⟩ := bnd h
  refine ev_bind hx 6 (pc' := 19) (L' := fun x2 => [some (.inr (.inr 155)), some (.inr (.inr 172)), some (.inl p2), some (.inl x1)]) (S' := fun x2 => [.inl x2]) (σ' := fun x2 => (SH L0, D)) (fun _ _ => rfl) ?_
  obtain ⟨⟨l3_5, D6⟩, hv, h⟩ := bnd h
  have hJ : EvF mtab d k_X10_leave 34 [some (.inr (.inr 155)), some (.inr (.inr 172)), some (.inl p2), some (.inl l3_5)] [] (SH L0, D6) (none, (SH L0, t0)) := by
    obtain ⟨x7, hx, h⟩ := bnd h
    refine ev_call (e_X4_isFall_172 L0 d (by omega) hx) 3 (pc' := 39) (L' := [some (.inr (.inr 155)), some (.inr (.inr 172)), some (.inl p2), some (.inl l3_5)]) (S' := []) (fun _ _ => rfl) ?_
    obtain ⟨D8, hv, h⟩ := bnd h
    have hJ : EvF mtab d k_X10_leave 52 [some (.inr (.inr 155)), some (.inr (.inr 172)), some (.inl p2), some (.inl l3_5)] [] (SH L0, D8) (none, (SH L0, t0)) := by
      obtain ⟨x9, hx, h⟩ := bnd h
      refine ev_bind hx 6 (pc' := 62) (L' := fun x9 => [some (.inr (.inr 155)), some (.inr (.inr 172)), some (.inl p2), some (.inl l3_5)]) (S' := fun x9 => [.inl x9, .inr (.inr 155)]) (σ' := fun x9 => (SH L0, D8)) (fun _ _ => rfl) ?_
      obtain ⟨D10, hx, h⟩ := bnd h
      refine ev_call (e_X10_enter L0 d (by omega) hx) 1 (pc' := 65) (L' := [some (.inr (.inr 155)), some (.inr (.inr 172)), some (.inl p2), some (.inl l3_5)]) (S' := []) (fun _ _ => rfl) ?_
      cases h
      exact ev_ret 1 (fun _ _ => rfl)
    clear h
    rcases ite_or hv with ⟨hc, hv⟩ | ⟨hc, hv⟩
    · refine ev_ift hc 1 (pc' := 42) (L' := [some (.inr (.inr 155)), some (.inr (.inr 172)), some (.inl p2), some (.inl l3_5)]) (S' := []) (σ' := (SH L0, D6)) (fun _ _ => rfl) ?_
      have he0 := Option.some.inj hv
      subst he0
      exact ev_go 6 (pc' := 52) (L' := [some (.inr (.inr 155)), some (.inr (.inr 172)), some (.inl p2), some (.inl l3_5)]) (S' := []) (σ' := (SH L0, dput D6 155 2 (w32 ((D6 155 2) + 1)))) (fun _ _ => rfl) hJ
    · refine ev_iff hc 1 (pc' := 52) (L' := [some (.inr (.inr 155)), some (.inr (.inr 172)), some (.inl p2), some (.inl l3_5)]) (S' := []) (σ' := (SH L0, D6)) (fun _ _ => rfl) ?_
      have he0 := Option.some.inj hv
      subst he0
      exact hJ
  clear h
  rcases ite_or hv with ⟨hc, hv⟩ | ⟨hc, hv⟩
  · refine ev_ift hc 2 (pc' := 23) (L' := [some (.inr (.inr 155)), some (.inr (.inr 172)), some (.inl p2), some (.inl x1)]) (S' := []) (σ' := (SH L0, D)) (fun _ _ => rfl) ?_
    obtain ⟨⟨x3, D4⟩, hx, hv⟩ := bnd hv
    refine ev_call (e_X10_isFirst L0 d (by omega) hx) 3 (pc' := 28) (L' := [some (.inr (.inr 155)), some (.inr (.inr 172)), some (.inl p2), some (.inl x1)]) (S' := []) (fun _ _ => rfl) ?_
    rcases ite_or hv with ⟨hc, hv⟩ | ⟨hc, hv⟩
    · refine ev_ift hc 1 (pc' := 31) (L' := [some (.inr (.inr 155)), some (.inr (.inr 172)), some (.inl p2), some (.inl x1)]) (S' := []) (σ' := (SH L0, D4)) (fun _ _ => rfl) ?_
      have he0 := Option.some.inj hv
      obtain ⟨ha0, he1⟩ := Prod.mk.inj he0
      clear he0
      subst ha0
      subst he1
      exact ev_go 1 (pc' := 34) (L' := [some (.inr (.inr 155)), some (.inr (.inr 172)), some (.inl p2), some (.inl (w32 (x1 + 1)))]) (S' := []) (σ' := (SH L0, D4)) (fun _ _ => rfl) hJ
    · refine ev_iff hc 1 (pc' := 34) (L' := [some (.inr (.inr 155)), some (.inr (.inr 172)), some (.inl p2), some (.inl x1)]) (S' := []) (σ' := (SH L0, D4)) (fun _ _ => rfl) ?_
      have he0 := Option.some.inj hv
      obtain ⟨ha0, he1⟩ := Prod.mk.inj he0
      clear he0
      subst ha0
      subst he1
      exact hJ
  · refine ev_iff hc 2 (pc' := 34) (L' := [some (.inr (.inr 155)), some (.inr (.inr 172)), some (.inl p2), some (.inl x1)]) (S' := []) (σ' := (SH L0, D)) (fun _ _ => rfl) ?_
    have he0 := Option.some.inj hv
    obtain ⟨ha0, he1⟩ := Prod.mk.inj he0
    clear he0
    subst ha0
    subst he1
    exact hJ
set_option maxRecDepth 100000 in
set_option maxHeartbeats 4000000 in
theorem e_X10_leave_155_177 (L0 d : Nat) (hd : 3 ≤ d) {p2 : Int} {D : DT} {t0 : DT} (h : m_X10_leave 177 p2 D = some t0) : Ret mtab d 124 [.inr (.inr 155), .inr (.inr 177), .inl p2] (SH L0, D) (none, (SH L0, t0)) := by
  obtain ⟨d, rfl⟩ : ∃ e, d = e + 1 := ⟨d - 1, by omega⟩
  refine Ret.of (code := k_X10_leave) (ml := 4) rfl ?_
  show EvF mtab d k_X10_leave 0 [some (.inr (.inr 155)), some (.inr (.inr 177)), some (.inl p2), none] [] (SH L0, D) (none, (SH L0, t0))
  unfold m_X10_leave at h
  obtain ⟨x1, hx, h⟩ := bnd h
  refine ev_bind hx 5 (pc' := 9) (L' := fun x1 => [some (.inr (.inr 155)), some (.inr (.inr 177)), some (.inl p2), none]) (S' := fun x1 => [.inl x1]) (σ' := fun x1 => (SH L0, D)) (fun _ _ => rfl) ?_
  obtain ⟨x2, hx, h⟩ := bnd h
  refine ev_bind hx 6 (pc' := 19) (L' := fun x2 => [some (.inr (.inr 155)), some (.inr (.inr 177)), some (.inl p2), some (.inl x1)]) (S' := fun x2 => [.inl x2]) (σ' := fun x2 => (SH L0, D)) (fun _ _ => rfl) ?_
  obtain ⟨⟨l3_5, D6⟩, hv, h⟩ := bnd h
  have hJ : EvF mtab d k_X10_leave 34 [some (.inr (.inr 155)), some (.inr (.inr 177)), some (.inl p2), some (.inl l3_5)] [] (SH L0, D6) (none, (SH L0, t0)) := by
    obtain ⟨x7, hx, h⟩ := bnd h
    refine ev_call (e_X4_isFall_177 L0 d (by omega) hx) 3 (pc' := 39) (L' := [some (.inr (.inr 155)), some (.inr (.inr 177)), some (.inl p2), some (.inl l3_5)]) (S' := []) (fun _ _ => rfl) ?_
    obtain ⟨D8, hv, h⟩ := bnd h
    have hJ : EvF mtab d k_X10_leave 52 [some (.inr (.inr 155)), some (.inr (.inr 177)), some (.inl p2), some (.inl l3_5)] [] (SH L0, D8) (none, (SH L0, t0)) := by
      obtain ⟨x9, hx, h⟩ := bnd h
      refine ev_bind hx 6 (pc' := 62) (L' := fun x9 => [some (.inr (.inr 155)), some (.inr (.inr 177)), some (.inl p2), some (.inl l3_5)]) (S' := fun x9 => [.inl x9, .inr (.inr 155)]) (σ' := fun x9 => (SH L0, D8)) (fun _ _ => rfl) ?_
      obtain ⟨D10, hx, h⟩ := bnd h
      refine ev_call (e_X10_enter L0 d (by omega) hx) 1 (pc' := 65) (L' := [some (.inr (.inr 155)), some (.inr (.inr 177)), some (.inl p2), some (.inl l3_5)]) (S' := []) (fun _ _ => rfl) ?_
      cases h
      exact ev_ret 1 (fun _ _ => rfl)
    clear h
    rcases ite_or hv with ⟨hc, hv⟩ | ⟨hc, hv⟩
    · refine ev_ift hc 1 (pc' := 42) (L' := [some (.inr (.inr 155)), some (.inr (.inr 177)), some (.inl p2), some (.inl l3_5)]) (S' := []) (σ' := (SH L0, D6)) (fun _ _ => rfl) ?_
      have he0 := Option.some.inj hv
      subst he0
      exact ev_go 6 (pc' := 52) (L' := [some (.inr (.inr 155)), some (.inr (.inr 177)), some (.inl p2), some (.inl l3_5)]) (S' := []) (σ' := (SH L0, dput D6 155 2 (w32 ((D6 155 2) + 1)))) (fun _ _ => rfl) hJ
    · refine ev_iff hc 1 (pc' := 52) (L' := [some (.inr (.inr 155)), some (.inr (.inr 177)), some (.inl p2), some (.inl l3_5)]) (S' := []) (σ' := (SH L0, D6)) (fun _ _ => rfl) ?_
      have he0 := Option.some.inj hv
      subst he0
      exact hJ
  clear h
  rcases ite_or hv with ⟨hc, hv⟩ | ⟨hc, hv⟩
  · refine ev_ift hc 2 (pc' := 23) (L' := [some (.inr (.inr 155)), some (.inr (.inr 177)), some (.inl p2), some (.inl x1)]) (S' := []) (σ' := (SH L0, D)) (fun _ _ => rfl) ?_
    obtain ⟨⟨x3, D4⟩, hx, hv⟩ := bnd hv
    refine ev_call (e_X10_isFirst L0 d (by omega) hx) 3 (pc' := 28) (L' := [some (.inr (.inr 155)), some (.inr (.inr 177)), some (.inl p2), some (.inl x1)]) (S' := []) (fun _ _ => rfl) ?_
    rcases ite_or hv with ⟨hc, hv⟩ | ⟨hc, hv⟩
    · refine ev_ift hc 1 (pc' := 31) (L' := [some (.inr (.inr 155)), some (.inr (.inr 177)), some (.inl p2), some (.inl x1)]) (S' := []) (σ' := (SH L0, D4)) (fun _ _ => rfl) ?_
      have he0 := Option.some.inj hv
      obtain ⟨ha0, he1⟩ := Prod.mk.inj he0
      clear he0
      subst ha0
      subst he1
      exact ev_go 1 (pc' := 34) (L' := [some (.inr (.inr 155)), some (.inr (.inr 177)), some (.inl p2), some (.inl (w32 (x1 + 1)))]) (S' := []) (σ' := (SH L0, D4)) (fun _ _ => rfl) hJ
    · refine ev_iff hc 1 (pc' := 34) (L' := [some (.inr (.inr 155)), some (.inr (.inr 177)), some (.inl p2), some (.inl x1)]) (S' := []) (σ' := (SH L0, D4)) (fun _ _ => rfl) ?_
      have he0 := Option.some.inj hv
      obtain ⟨ha0, he1⟩ := Prod.mk.inj he0
      clear he0
      subst ha0
      subst he1
      exact hJ
  · refine ev_iff hc 2 (pc' := 34) (L' := [some (.inr (.inr 155)), some (.inr (.inr 177)), some (.inl p2), some (.inl x1)]) (S' := []) (σ' := (SH L0, D)) (fun _ _ => rfl) ?_
    have he0 := Option.some.inj hv
    obtain ⟨ha0, he1⟩ := Prod.mk.inj he0
    clear he0
    subst ha0
    subst he1
    exact hJ
set_option maxRecDepth 100000 in
set_option maxHeartbeats 4000000 in
theorem e_X10_leave_155_182 (L0 d : Nat) (hd : 3 ≤ d) {p2 : Int} {D : DT} {t0 : DT} (h : m_X10_leave 182 p2 D = some t0) : Ret mtab d 124 [.inr (.inr 155), .inr (.inr 182), .inl p2] (SH L0, D) (none, (SH L0, t0)) := by
  obtain ⟨d, rfl⟩ : ∃ e, d = e + 1 := ⟨d - 1, by omega⟩
  refine Ret.of (code := k_X10_leave) (ml := 4) rfl ?_
  show EvF mtab d k_X10_leave 0 [some (.inr (.inr 155)), some (.inr (.inr 182)), some (.inl p2), none] [] (SH L0, D) (none, (SH L0, t0))
  unfold m_X10_leave at h
  obtain ⟨x1, hx, h⟩ := bnd h
  refine ev_bind hx 5 (pc' := 9) (L' := fun x1 => [some (.inr (.inr 155)), some (.inr (.inr 182)), some (.inl p2), none]) (S' := fun x1 => [.inl x1]) (σ' := fun x1 => (SH L0, D)) (fun _ _ => rfl) ?_
  obtain ⟨x2, hx, h⟩ := bnd h
  refine ev_bind hx 6 (pc' := 19) (L' := fun x2 => [some (.inr (.inr 155)), some (.inr (.inr 182)), some (.inl p2), some (.inl x1)]) (S' := fun x2 => [.inl x2]) (σ' := fun x2 => (SH L0, D)) (fun _ _ => rfl) ?_
  obtain ⟨⟨l3_5, D6⟩, hv, h⟩ := bnd h
  have hJ : EvF mtab d k_X10_leave 34 [some (.inr (.inr 155)), some (.inr (.inr 182)), some (.inl p2), some (.inl l3_5)] [] (SH L0, D6) (none, (SH L0, t0)) := by
    obtain ⟨x7, hx, h⟩ := bnd h
    refine ev_call (e_X4_isFall_182 L0 d (by omega) hx) 3 (pc' := 39) (L' := [some (.inr (.inr 155)), some (.inr (.inr 182)), some (.inl p2), some (.inl l3_5)]) (S' := []) (fun _ _ => rfl) ?_
    obtain ⟨D8, hv, h⟩ := bnd h
    have hJ : EvF mtab d k_X10_leave 52 [some (.inr (.inr 155)), some (.inr (.inr 182)), some (.inl p2), some (.inl l3_5)] [] (SH L0, D8) (none, (SH L0, t0)) := by
      obtain ⟨x9, hx, h⟩ := bnd h
      refine ev_bind hx 6 (pc' := 62) (L' := fun x9 => [some (.inr (.inr 155)), some (.inr (.inr 182)), some (.inl p2), some (.inl l3_5)]) (S' := fun x9 => [.inl x9, .inr (.inr 155)]) (σ' := fun x9 => (SH L0, D8)) (fun _ _ => rfl) ?_
      obtain ⟨D10, hx, h⟩ := bnd h
      refine ev_call (e_X10_enter L0 d (by omega) hx) 1 (pc' := 65) (L' := [some (.inr (.inr 155)), some (.inr (.inr 182)), some (.inl p2), some (.inl l3_5)]) (S' := []) (fun _ _ => rfl) ?_
      cases h
      exact ev_ret 1 (fun _ _ => rfl)
    clear h
    rcases ite_or hv with ⟨hc, hv⟩ | ⟨hc, hv⟩
    · refine ev_ift hc 1 (pc' := 42) (L' := [some (.inr (.inr 155)), some (.inr (.inr 182)), some (.inl p2), some (.inl l3_5)]) (S' := []) (σ' := (SH L0, D6)) (fun _ _ => rfl) ?_
      have he0 := Option.some.inj hv
      subst he0
      exact ev_go 6 (pc' := 52) (L' := [some (.inr (.inr 155)), some (.inr (.inr 182)), some (.inl p2), some (.inl l3_5)]) (S' := []) (σ' := (SH L0, dput D6 155 2 (w32 ((D6 155 2) + 1)))) (fun _ _ => rfl) hJ
    · refine ev_iff hc 1 (pc' := 52) (L' := [some (.inr (.inr 155)), some (.inr (.inr 182)), some (.inl p2), some (.inl l3_5)]) (S' := []) (σ' := (SH L0, D6)) (fun _ _ => rfl) ?_
      have he0 := Option.some.inj hv
      subst he0
      exact hJ
  clear h
  rcases ite_or hv with ⟨hc, hv⟩ | ⟨hc, hv⟩
  · refine ev_ift hc 2 (pc' := 23) (L' := [some (.inr (.inr 155)), some (.inr (.inr 182)), some (.inl p2), some (.inl x1)]) (S' := []) (σ' := (SH L0, D)) (fun _ _ => rfl) ?_
    obtain ⟨⟨x3, D4⟩, hx, hv⟩ := bnd hv
    refine ev_call (e_X10_isFirst L0 d (by omega) hx) 3 (pc' := 28) (L' := [some (.inr (.inr 155)), some (.inr (.inr 182)), some (.inl p2), some (.inl x1)]) (S' := []) (fun _ _ => rfl) ?_
    rcases ite_or hv with ⟨hc, hv⟩ | ⟨hc, hv⟩
    · refine ev_ift hc 1 (pc' := 31) (L' := [some (.inr (.inr 155)), some (.inr (.inr 182)), some (.inl p2), some (.inl x1)]) (S' := []) (σ' := (SH L0, D4)) (fun _ _ => rfl) ?_
      have he0 := Option.some.inj hv
      obtain ⟨ha0, he1⟩ := Prod.mk.inj he0
      clear he0
      subst ha0
      subst he1
      exact ev_go 1 (pc' := 34) (L' := [some (.inr (.inr 155)), some (.inr (.inr 182)), some (.inl p2), some (.inl (w32 (x1 + 1)))]) (S' := []) (σ' := (SH L0, D4)) (fun _ _ => rfl) hJ
    · refine ev_iff hc 1 (pc' := 34) (L' := [some (.inr (.inr 155)), some (.inr (.inr 182)), some (.inl p2), some (.inl x1)]) (S' := []) (σ' := (SH L0, D4)) (fun _ _ => rfl) ?_
      have he0 := Option.some.inj hv
      obtain ⟨ha0, he1⟩ := Prod.mk.inj he0
      clear he0
      subst ha0
      subst he1
      exact hJ
  · refine ev_iff hc 2 (pc' := 34) (L' := [some (.inr (.inr 155)), some (.inr (.inr 182)), some (.inl p2), some (.inl x1)]) (S' := []) (σ' := (SH L0, D)) (fun _ _ => rfl) ?_
    have he0 := Option.some.inj hv
    obtain ⟨ha0, he1⟩ := Prod.mk.inj he0
    clear he0
    subst ha0
    subst he1
    exact hJ
set_option maxRecDepth 100000 in
set_option maxHeartbeats 4000000 in
theorem e_X10_goOn_155_162 (L0 d : Nat) (hd : 4 ≤ d) {D : DT} {t0 : DT} (h : m_X10_goOn 162 D = some t0) : Ret mtab d 122 [.inr (.inr 155), .inr (.inr 162)] (SH L0, D) (none, (SH L0, t0)) := by
  obtain ⟨d, rfl⟩ : ∃ e, d = e + 1 := ⟨d - 1, by omega⟩
  refine Ret.of (code := k_X10_goOn) (ml := 5) rfl ?_
  show EvF mtab d k_X10_goOn 0 [some (.inr (.inr 155)), some (.inr (.inr 162)), none, none, none] [] (SH L0, D) (none, (SH L0, t0))
  unfold m_X10_goOn at h
  obtain ⟨r, hr, h⟩ := bnd h
  have hX : (fun (r : DT) => ∀ (o14 : Option (Sum Int Nat)) (o15 : Option (Sum Int Nat)) (o16 : Option (Sum Int Nat)), EvF mtab d k_X10_goOn 104 [some (.inr (.inr 155)), some (.inr (.inr 162)), dv o14, dv o15, dv o16] [] (SH L0, r) (none, (SH L0, t0))) r := by
    obtain ⟨D17, hre⟩ : ∃ q, q = r := ⟨r, rfl⟩
    subst hre
    intro o14 o15 o16
    show EvF mtab d k_X10_goOn 104 [some (.inr (.inr 155)), some (.inr (.inr 162)), dv o14, dv o15, dv o16] [] (SH L0, D17) (none, (SH L0, t0))
    cases h
    exact ev_ret 1 (fun _ _ => rfl)
  clear h
  refine ev_go 4 (pc' := 4) (L' := [some (.inr (.inr 155)), some (.inr (.inr 162)), some (.inl 0), some (.inl 0), none]) (S' := []) (σ' := (SH L0, D)) (fun _ _ => rfl) ?_
  refine loop_ind (P := fun s => ∀ (o3 : Option (Sum Int Nat)), EvF mtab d k_X10_goOn 4 [some (.inr (.inr 155)), some (.inr (.inr 162)), some (.inl s.1), some (.inl s.2.1), dv o3] [] (SH L0, s.2.2) (none, (SH L0, t0))) (X := fun r => ∀ (o14 : Option (Sum Int Nat)) (o15 : Option (Sum Int Nat)) (o16 : Option (Sum Int Nat)), EvF mtab d k_X10_goOn 104 [some (.inr (.inr 155)), some (.inr (.inr 162)), dv o14, dv o15, dv o16] [] (SH L0, r) (none, (SH L0, t0))) hr hX ?_ none
  clear hr hX
  intro s t hb hK0
  obtain ⟨l2_1, l3_2, D4⟩ := s
  intro o3
  show EvF mtab d k_X10_goOn 4 [some (.inr (.inr 155)), some (.inr (.inr 162)), some (.inl l2_1), some (.inl l3_2), dv o3] [] (SH L0, D4) (none, (SH L0, t0))
  unfold b_X10_goOn_4 at hb
  rcases ite_or hb with ⟨hc, hb⟩ | ⟨hc, hb⟩
  · refine ev_ift hc 3 (pc' := 10) (L' := [some (.inr (.inr 155)), some (.inr (.inr 162)), some (.inl l2_1), some (.inl l3_2), dv o3]) (S' := []) (σ' := (SH L0, D4)) (fun _ _ => rfl) ?_
    rcases ite_or hb with ⟨hc, hb⟩ | ⟨hc, hb⟩
    · refine ev_ift hc 2 (pc' := 14) (L' := [some (.inr (.inr 155)), some (.inr (.inr 162)), some (.inl l2_1), some (.inl l3_2), dv o3]) (S' := []) (σ' := (SH L0, D4)) (fun _ _ => rfl) ?_
      rcases ite_or hb with ⟨hc, hb⟩ | ⟨hc, hb⟩
      · refine ev_ift hc 3 (pc' := 104) (L' := [some (.inr (.inr 155)), some (.inr (.inr 162)), some (.inl l2_1), some (.inl l3_2), dv o3]) (S' := []) (σ' := (SH L0, D4)) (fun _ _ => rfl) ?_
        cases hb
        exact hK0 (some (.inl l2_1)) (some (.inl l3_2)) o3
      · refine ev_iff hc 3 (pc' := 21) (L' := [some (.inr (.inr 155)), some (.inr (.inr 162)), some (.inl l2_1), some (.inl l3_2), dv o3]) (S' := []) (σ' := (SH L0, D4)) (fun _ _ => rfl) ?_
        obtain ⟨x5, hx, hb⟩ := bnd hb
        refine ev_bind hx 5 (pc' := 30) (L' := fun x5 => [some (.inr (.inr 155)), some (.inr (.inr 162)), some (.inl l2_1), some (.inl l3_2), dv o3]) (S' := fun x5 => [.inl x5]) (σ' := fun x5 => (SH L0, D4)) (fun _ _ => rfl) ?_
        obtain ⟨x6, hx, hb⟩ := bnd hb
        refine ev_bind hx 6 (pc' := 41) (L' := fun x6 => [some (.inr (.inr 155)), some (.inr (.inr 162)), some (.inl l2_1), some (.inl l3_2), some (.inl x5)]) (S' := fun x6 => [.inl x6]) (σ' := fun x6 => (SH L0, D4)) (fun _ _ => rfl) ?_
        obtain ⟨x7, hx, hb⟩ := bnd hb
        refine ev_call (e_X7_callsOf L0 d (by omega) hx) 4 (pc' := 50) (L' := [some (.inr (.inr 155)), some (.inr (.inr 162)), some (.inl l2_1), some (.inl l3_2), some (.inl x5)]) (S' := [.inl x6]) (fun _ _ => rfl) ?_
        obtain ⟨⟨l2_12, D13⟩, hv, hb⟩ := bnd hb
        have hJ : EvF mtab d k_X10_goOn 98 [some (.inr (.inr 155)), some (.inr (.inr 162)), some (.inl l2_12), some (.inl l3_2), some (.inl x5)] [] (SH L0, D13) (none, (SH L0, t0)) := by
          cases hb
          exact ev_go 2 (pc' := 4) (L' := [some (.inr (.inr 155)), some (.inr (.inr 162)), some (.inl l2_12), some (.inl (w32 (l3_2 + 1))), some (.inl x5)]) (S' := []) (σ' := (SH L0, D13)) (fun _ _ => rfl) (hK0 (some (.inl x5)))
        clear hb
        rcases ite_or hv with ⟨hc, hv⟩ | ⟨hc, hv⟩
        · refine ev_ift hc 1 (pc' := 53) (L' := [some (.inr (.inr 155)), some (.inr (.inr 162)), some (.inl l2_1), some (.inl l3_2), some (.inl x5)]) (S' := []) (σ' := (SH L0, D4)) (fun _ _ => rfl) ?_
          obtain ⟨⟨x8, D9⟩, hx, hv⟩ := bnd hv
          refine ev_call (e_X10_makeCall L0 d (by omega) hx) 3 (pc' := 59) (L' := [some (.inr (.inr 155)), some (.inr (.inr 162)), some (.inl l2_1), some (.inl l3_2), some (.inl x5)]) (S' := []) (fun _ _ => rfl) ?_
          have he0 := Option.some.inj hv
          obtain ⟨ha0, he1⟩ := Prod.mk.inj he0
          clear he0
          subst ha0
          subst he1
          exact ev_go 2 (pc' := 98) (L' := [some (.inr (.inr 155)), some (.inr (.inr 162)), some (.inl x8), some (.inl l3_2), some (.inl x5)]) (S' := []) (σ' := (SH L0, D9)) (fun _ _ => rfl) hJ
        · refine ev_iff hc 1 (pc' := 63) (L' := [some (.inr (.inr 155)), some (.inr (.inr 162)), some (.inl l2_1), some (.inl l3_2), some (.inl x5)]) (S' := []) (σ' := (SH L0, D4)) (fun _ _ => rfl) ?_
          obtain ⟨x10, hx, hv⟩ := bnd hv
          refine ev_bind hx 5 (pc' := 73) (L' := fun x10 => [some (.inr (.inr 155)), some (.inr (.inr 162)), some (.inl l2_1), some (.inl l3_2), some (.inl x5)]) (S' := fun x10 => [.inl x10]) (σ' := fun x10 => (SH L0, D4)) (fun _ _ => rfl) ?_
          rcases ite_or hv with ⟨hc, hv⟩ | ⟨hc, hv⟩
          · refine ev_ift hc 1 (pc' := 76) (L' := [some (.inr (.inr 155)), some (.inr (.inr 162)), some (.inl l2_1), some (.inl l3_2), some (.inl x5)]) (S' := []) (σ' := (SH L0, D4)) (fun _ _ => rfl) ?_
            have he0 := Option.some.inj hv
            obtain ⟨ha0, he1⟩ := Prod.mk.inj he0
            clear he0
            subst ha0
            subst he1
            exact ev_go 7 (pc' := 98) (L' := [some (.inr (.inr 155)), some (.inr (.inr 162)), some (.inl l2_1), some (.inl l3_2), some (.inl x5)]) (S' := []) (σ' := (SH L0, dput D4 155 9 (w32 ((D4 155 9) - 1)))) (fun _ _ => rfl) hJ
          · refine ev_iff hc 1 (pc' := 89) (L' := [some (.inr (.inr 155)), some (.inr (.inr 162)), some (.inl l2_1), some (.inl l3_2), some (.inl x5)]) (S' := []) (σ' := (SH L0, D4)) (fun _ _ => rfl) ?_
            obtain ⟨D11, hx, hv⟩ := bnd hv
            refine ev_call (e_X10_leave_155_162 L0 d (by omega) hx) 4 (pc' := 96) (L' := [some (.inr (.inr 155)), some (.inr (.inr 162)), some (.inl l2_1), some (.inl l3_2), some (.inl x5)]) (S' := []) (fun _ _ => rfl) ?_
            have he0 := Option.some.inj hv
            obtain ⟨ha0, he1⟩ := Prod.mk.inj he0
            clear he0
            subst ha0
            subst he1
            exact ev_go 2 (pc' := 98) (L' := [some (.inr (.inr 155)), some (.inr (.inr 162)), some (.inl 1), some (.inl l3_2), some (.inl x5)]) (S' := []) (σ' := (SH L0, D11)) (fun _ _ => rfl) hJ
    · refine ev_iff hc 2 (pc' := 104) (L' := [some (.inr (.inr 155)), some (.inr (.inr 162)), some (.inl l2_1), some (.inl l3_2), dv o3]) (S' := []) (σ' := (SH L0, D4)) (fun _ _ => rfl) ?_
      cases hb
      exact hK0 (some (.inl l2_1)) (some (.inl l3_2)) o3
  · refine ev_iff hc 3 (pc' := 104) (L' := [some (.inr (.inr 155)), some (.inr (.inr 162)), some (.inl l2_1), some (.inl l3_2), dv o3]) (S' := []) (σ' := (SH L0, D4)) (fun _ _ => rfl) ?_
    cases hb
    exact hK0 (some (.inl l2_1)) (some (.inl l3_2)) o3
set_option maxRecDepth 100000 in
set_option maxHeartbeats 4000000 in
theorem e_X10_goOn_155_167 (L0 d : Nat) (hd : 4 ≤ d) {D : DT} {t0 : DT} (h : m_X10_goOn 167 D = some t0) : Ret mtab d 122 [.inr (.inr 155), .inr (.inr 167)] (SH L0, D) (none, (SH L0, t0)) := by
  obtain ⟨d, rfl⟩ : ∃ e, d = e + 1 := ⟨d - 1, by omega⟩
  refine Ret.of (code := k_X10_goOn) (ml := 5) rfl ?_
  show EvF mtab d k_X10_goOn 0 [some (.inr (.inr 155)), some (.inr (.inr 167)), none, none, none] [] (SH L0, D) (none, (SH L0, t0))
  unfold m_X10_goOn at h
  obtain ⟨r, hr, h⟩ := bnd h
  have hX : (fun (r : DT) => ∀ (o14 : Option (Sum Int Nat)) (o15 : Option (Sum Int Nat)) (o16 : Option (Sum Int Nat)), EvF mtab d k_X10_goOn 104 [some (.inr (.inr 155)), some (.inr (.inr 167)), dv o14, dv o15, dv o16] [] (SH L0, r) (none, (SH L0, t0))) r := by
    obtain ⟨D17, hre⟩ : ∃ q, q = r := ⟨r, rfl⟩
    subst hre
    intro o14 o15 o16
    show EvF mtab d k_X10_goOn 104 [some (.inr (.inr 155)), some (.inr (.inr 167)), dv o14, dv o15, dv o16] [] (SH L0, D17) (none, (SH L0, t0))
    cases h
    exact ev_ret 1 (fun _ _ => rfl)
  clear h
  refine ev_go 4 (pc' := 4) (L' := [some (.inr (.inr 155)), some (.inr (.inr 167)), some (.inl 0), some (.inl 0), none]) (S' := []) (σ' := (SH L0, D)) (fun _ _ => rfl) ?_
  refine loop_ind (P := fun s => ∀ (o3 : Option (Sum Int Nat)), EvF mtab d k_X10_goOn 4 [some (.inr (.inr 155)), some (.inr (.inr 167)), some (.inl s.1), some (.inl s.2.1), dv o3] [] (SH L0, s.2.2) (none, (SH L0, t0))) (X := fun r => ∀ (o14 : Option (Sum Int Nat)) (o15 : Option (Sum Int Nat)) (o16 : Option (Sum Int Nat)), EvF mtab d k_X10_goOn 104 [some (.inr (.inr 155)), some (.inr (.inr 167)), dv o14, dv o15, dv o16] [] (SH L0, r) (none, (SH L0, t0))) hr hX ?_ none
  clear hr hX
  intro s t hb hK0
  obtain ⟨l2_1, l3_2, D4⟩ := s
  intro o3
  show EvF mtab d k_X10_goOn 4 [some (.inr (.inr 155)), some (.inr (.inr 167)), some (.inl l2_1), some (.inl l3_2), dv o3] [] (SH L0, D4) (none, (SH L0, t0))
  unfold b_X10_goOn_4 at hb
  rcases ite_or hb with ⟨hc, hb⟩ | ⟨hc, hb⟩
  · refine ev_ift hc 3 (pc' := 10) (L' := [some (.inr (.inr 155)), some (.inr (.inr 167)), some (.inl l2_1), some (.inl l3_2), dv o3]) (S' := []) (σ' := (SH L0, D4)) (fun _ _ => rfl) ?_
    rcases ite_or hb with ⟨hc, hb⟩ | ⟨hc, hb⟩
    · refine ev_ift hc 2 (pc' := 14) (L' := [some (.inr (.inr 155)), some (.inr (.inr 167)), some (.inl l2_1), some (.inl l3_2), dv o3]) (S' := []) (σ' := (SH L0, D4)) (fun _ _ => rfl) ?_
      rcases ite_or hb with ⟨hc, hb⟩ | ⟨hc, hb⟩
      · refine ev_ift hc 3 (pc' := 104) (L' := [some (.inr (.inr 155)), some (.inr (.inr 167)), some (.inl l2_1), some (.inl l3_2), dv o3]) (S' := []) (σ' := (SH L0, D4)) (fun _ _ => rfl) ?_
        cases hb
        exact hK0 (some (.inl l2_1)) (some (.inl l3_2)) o3
      · refine ev_iff hc 3 (pc' := 21) (L' := [some (.inr (.inr 155)), some (.inr (.inr 167)), some (.inl l2_1), some (.inl l3_2), dv o3]) (S' := []) (σ' := (SH L0, D4)) (fun _ _ => rfl) ?_
        obtain ⟨x5, hx, hb⟩ := bnd hb
        refine ev_bind hx 5 (pc' := 30) (L' := fun x5 => [some (.inr (.inr 155)), some (.inr (.inr 167)), some (.inl l2_1), some (.inl l3_2), dv o3]) (S' := fun x5 => [.inl x5]) (σ' := fun x5 => (SH L0, D4)) (fun _ _ => rfl) ?_
        obtain ⟨x6, hx, hb⟩ := bnd hb
        refine ev_bind hx 6 (pc' := 41) (L' := fun x6 => [some (.inr (.inr 155)), some (.inr (.inr 167)), some (.inl l2_1), some (.inl l3_2), some (.inl x5)]) (S' := fun x6 => [.inl x6]) (σ' := fun x6 => (SH L0, D4)) (fun _ _ => rfl) ?_
        obtain ⟨x7, hx, hb⟩ := bnd hb
        refine ev_call (e_X7_callsOf L0 d (by omega) hx) 4 (pc' := 50) (L' := [some (.inr (.inr 155)), some (.inr (.inr 167)), some (.inl l2_1), some (.inl l3_2), some (.inl x5)]) (S' := [.inl x6]) (fun _ _ => rfl) ?_
        obtain ⟨⟨l2_12, D13⟩, hv, hb⟩ := bnd hb
        have hJ : EvF mtab d k_X10_goOn 98 [some (.inr (.inr 155)), some (.inr (.inr 167)), some (.inl l2_12), some (.inl l3_2), some (.inl x5)] [] (SH L0, D13) (none, (SH L0, t0)) := by
          cases hb
          exact ev_go 2 (pc' := 4) (L' := [some (.inr (.inr 155)), some (.inr (.inr 167)), some (.inl l2_12), some (.inl (w32 (l3_2 + 1))), some (.inl x5)]) (S' := []) (σ' := (SH L0, D13)) (fun _ _ => rfl) (hK0 (some (.inl x5)))
        clear hb
        rcases ite_or hv with ⟨hc, hv⟩ | ⟨hc, hv⟩
        · refine ev_ift hc 1 (pc' := 53) (L' := [some (.inr (.inr 155)), some (.inr (.inr 167)), some (.inl l2_1), some (.inl l3_2), some (.inl x5)]) (S' := []) (σ' := (SH L0, D4)) (fun _ _ => rfl) ?_
          obtain ⟨⟨x8, D9⟩, hx, hv⟩ := bnd hv
          refine ev_call (e_X10_makeCall L0 d (by omega) hx) 3 (pc' := 59) (L' := [some (.inr (.inr 155)), some (.inr (.inr 167)), some (.inl l2_1), some (.inl l3_2), some (.inl x5)]) (S' := []) (fun _ _ => rfl) ?_
          have he0 := Option.some.inj hv
          obtain ⟨ha0, he1⟩ := Prod.mk.inj he0
          clear he0
          subst ha0
          subst he1
          exact ev_go 2 (pc' := 98) (L' := [some (.inr (.inr 155)), some (.inr (.inr 167)), some (.inl x8), some (.inl l3_2), some (.inl x5)]) (S' := []) (σ' := (SH L0, D9)) (fun _ _ => rfl) hJ
        · refine ev_iff hc 1 (pc' := 63) (L' := [some (.inr (.inr 155)), some (.inr (.inr 167)), some (.inl l2_1), some (.inl l3_2), some (.inl x5)]) (S' := []) (σ' := (SH L0, D4)) (fun _ _ => rfl) ?_
          obtain ⟨x10, hx, hv⟩ := bnd hv
          refine ev_bind hx 5 (pc' := 73) (L' := fun x10 => [some (.inr (.inr 155)), some (.inr (.inr 167)), some (.inl l2_1), some (.inl l3_2), some (.inl x5)]) (S' := fun x10 => [.inl x10]) (σ' := fun x10 => (SH L0, D4)) (fun _ _ => rfl) ?_
          rcases ite_or hv with ⟨hc, hv⟩ | ⟨hc, hv⟩
          · refine ev_ift hc 1 (pc' := 76) (L' := [some (.inr (.inr 155)), some (.inr (.inr 167)), some (.inl l2_1), some (.inl l3_2), some (.inl x5)]) (S' := []) (σ' := (SH L0, D4)) (fun _ _ => rfl) ?_
            have he0 := Option.some.inj hv
            obtain ⟨ha0, he1⟩ := Prod.mk.inj he0
            clear he0
            subst ha0
            subst he1
            exact ev_go 7 (pc' := 98) (L' := [some (.inr (.inr 155)), some (.inr (.inr 167)), some (.inl l2_1), some (.inl l3_2), some (.inl x5)]) (S' := []) (σ' := (SH L0, dput D4 155 9 (w32 ((D4 155 9) - 1)))) (fun _ _ => rfl) hJ
          · refine ev_iff hc 1 (pc' := 89) (L' := [some (.inr (.inr 155)), some (.inr (.inr 167)), some (.inl l2_1), some (.inl l3_2), some (.inl x5)]) (S' := []) (σ' := (SH L0, D4)) (fun _ _ => rfl) ?_
            obtain ⟨D11, hx, hv⟩ := bnd hv
            refine ev_call (e_X10_leave_155_167 L0 d (by omega) hx) 4 (pc' := 96) (L' := [some (.inr (.inr 155)), some (.inr (.inr 167)), some (.inl l2_1), some (.inl l3_2), some (.inl x5)]) (S' := []) (fun _ _ => rfl) ?_
            have he0 := Option.some.inj hv
            obtain ⟨ha0, he1⟩ := Prod.mk.inj he0
            clear he0
            subst ha0
            subst he1
            exact ev_go 2 (pc' := 98) (L' := [some (.inr (.inr 155)), some (.inr (.inr 167)), some (.inl 1), some (.inl l3_2), some (.inl x5)]) (S' := []) (σ' := (SH L0, D11)) (fun _ _ => rfl) hJ
    · refine ev_iff hc 2 (pc' := 104) (L' := [some (.inr (.inr 155)), some (.inr (.inr 167)), some (.inl l2_1), some (.inl l3_2), dv o3]) (S' := []) (σ' := (SH L0, D4)) (fun _ _ => rfl) ?_
      cases hb
      exact hK0 (some (.inl l2_1)) (some (.inl l3_2)) o3
  · refine ev_iff hc 3 (pc' := 104) (L' := [some (.inr (.inr 155)), some (.inr (.inr 167)), some (.inl l2_1), some (.inl l3_2), dv o3]) (S' := []) (σ' := (SH L0, D4)) (fun _ _ => rfl) ?_
    cases hb
    exact hK0 (some (.inl l2_1)) (some (.inl l3_2)) o3
set_option maxRecDepth 100000 in
set_option maxHeartbeats 4000000 in
theorem e_X10_goOn_155_172 (L0 d : Nat) (hd : 4 ≤ d) {D : DT} {t0 : DT} (h : m_X10_goOn 172 D = some t0) : Ret mtab d 122 [.inr (.inr 155), .inr (.inr 172)] (SH L0, D) (none, (SH L0, t0)) := by
  obtain ⟨d, rfl⟩ : ∃ e, d = e + 1 := ⟨d - 1, by omega⟩
  refine Ret.of (code := k_X10_goOn) (ml := 5) rfl ?_
  show EvF mtab d k_X10_goOn 0 [some (.inr (.inr 155)), some (.inr (.inr 172)), none, none, none] [] (SH L0, D) (none, (SH L0, t0))
  unfold m_X10_goOn at h
  obtain ⟨r, hr, h⟩ := bnd h
  have hX : (fun (r : DT) => ∀ (o14 : Option (Sum Int Nat)) (o15 : Option (Sum Int Nat)) (o16 : Option (Sum Int Nat)), EvF mtab d k_X10_goOn 104 [some (.inr (.inr 155)), some (.inr (.inr 172)), dv o14, dv o15, dv o16] [] (SH L0, r) (none, (SH L0, t0))) r := by
    obtain ⟨D17, hre⟩ : ∃ q, q = r := ⟨r, rfl⟩
    subst hre
    intro o14 o15 o16
    show EvF mtab d k_X10_goOn 104 [some (.inr (.inr 155)), some (.inr (.inr 172)), dv o14, dv o15, dv o16] [] (SH L0, D17) (none, (SH L0, t0))
    cases h
    exact ev_ret 1 (fun _ _ => rfl)
  clear h
  refine ev_go 4 (pc' := 4) (L' := [some (.inr (.inr 155)), some (.inr (.inr 172)), some (.inl 0), some (.inl 0), none]) (S' := []) (σ' := (SH L0, D)) (fun _ _ => rfl) ?_
  refine loop_ind (P := fun s => ∀ (o3 : Option (Sum Int Nat)), EvF mtab d k_X10_goOn 4 [some (.inr (.inr 155)), some (.inr (.inr 172)), some (.inl s.1), some (.inl s.2.1), dv o3] [] (SH L0, s.2.2) (none, (SH L0, t0))) (X := fun r => ∀ (o14 : Option (Sum Int Nat)) (o15 : Option (Sum Int Nat)) (o16 : Option (Sum Int Nat)), EvF mtab d k_X10_goOn 104 [some (.inr (.inr 155)), some (.inr (.inr 172)), dv o14, dv o15, dv o16] [] (SH L0, r) (none, (SH L0, t0))) hr hX ?_ none
  clear hr hX
  intro s t hb hK0
  obtain ⟨l2_1, l3_2, D4⟩ := s
  intro o3
  show EvF mtab d k_X10_goOn 4 [some (.inr (.inr 155)), some (.inr (.inr 172)), some (.inl l2_1), some (.inl l3_2), dv o3] [] (SH L0, D4) (none, (SH L0, t0))
  unfold b_X10_goOn_4 at hb
  rcases ite_or hb with ⟨hc, hb⟩ | ⟨hc, hb⟩
  · refine ev_ift hc 3 (pc' := 10) (L' := [some (.inr (.inr 155)), some (.inr (.inr 172)), some (.inl l2_1), some (.inl l3_2), dv o3]) (S' := []) (σ' := (SH L0, D4)) (fun _ _ => rfl) ?_
    rcases ite_or hb with ⟨hc, hb⟩ | ⟨hc, hb⟩
    · refine ev_ift hc 2 (pc' := 14) (L' := [some (.inr (.inr 155)), some (.inr (.inr 172)), some (.inl l2_1), some (.inl l3_2), dv o3]) (S' := []) (σ' := (SH L0, D4)) (fun _ _ => rfl) ?_
      rcases ite_or hb with ⟨hc, hb⟩ | ⟨hc, hb⟩
      · refine ev_ift hc 3 (pc' := 104) (L' := [some (.inr (.inr 155)), some (.inr (.inr 172)), some (.inl l2_1), some (.inl l3_2), dv o3]) (S' := []) (σ' := (SH L0, D4)) (fun _ _ => rfl) ?_
        cases hb
        exact hK0 (some (.inl l2_1)) (some (.inl l3_2)) o3
      · refine ev_iff hc 3 (pc' := 21) (L' := [some (.inr (.inr 155)), some (.inr (.inr 172)), some (.inl l2_1), some (.inl l3_2), dv o3]) (S' := []) (σ' := (SH L0, D4)) (fun _ _ => rfl) ?_
        obtain ⟨x5, hx, hb⟩ := bnd hb
        refine ev_bind hx 5 (pc' := 30) (L' := fun x5 => [some (.inr (.inr 155)), some (.inr (.inr 172)), some (.inl l2_1), some (.inl l3_2), dv o3]) (S' := fun x5 => [.inl x5]) (σ' := fun x5 => (SH L0, D4)) (fun _ _ => rfl) ?_
        obtain ⟨x6, hx, hb⟩ := bnd hb
        refine ev_bind hx 6 (pc' := 41) (L' := fun x6 => [some (.inr (.inr 155)), some (.inr (.inr 172)), some (.inl l2_1), some (.inl l3_2), some (.inl x5)]) (S' := fun x6 => [.inl x6]) (σ' := fun x6 => (SH L0, D4)) (fun _ _ => rfl) ?_
        obtain ⟨x7, hx, hb⟩ := bnd hb
        refine ev_call (e_X7_callsOf L0 d (by omega) hx) 4 (pc' := 50) (L' := [some (.inr (.inr 155)), some (.inr (.inr 172)), some (.inl l2_1), some (.inl l3_2), some (.inl x5)]) (S' := [.inl x6]) (fun _ _ => rfl) ?_
        obtain ⟨⟨l2_12, D13⟩, hv, hb⟩ := bnd hb
        have hJ : EvF mtab d k_X10_goOn 98 [some (.inr (.inr 155)), some (.inr (.inr 172)), some (.inl l2_12), some (.inl l3_2), some (.inl x5)] [] (SH L0, D13) (none, (SH L0, t0)) := by
          cases hb
          exact ev_go 2 (pc' := 4) (L' := [some (.inr (.inr 155)), some (.inr (.inr 172)), some (.inl l2_12), some (.inl (w32 (l3_2 + 1))), some (.inl x5)]) (S' := []) (σ' := (SH L0, D13)) (fun _ _ => rfl) (hK0 (some (.inl x5)))
        clear hb
        rcases ite_or hv with ⟨hc, hv⟩ | ⟨hc, hv⟩
        · refine ev_ift hc 1 (pc' := 53) (L' := [some (.inr (.inr 155)), some (.inr (.inr 172)), some (.inl l2_1), some (.inl l3_2), some (.inl x5)]) (S' := []) (σ' := (SH L0, D4)) (fun _ _ => rfl) ?_
          obtain ⟨⟨x8, D9⟩, hx, hv⟩ := bnd hv
          refine ev_call (e_X10_makeCall L0 d (by omega) hx) 3 (pc' := 59) (L' := [some (.inr (.inr 155)), some (.inr (.inr 172)), some (.inl l2_1), some (.inl l3_2), some (.inl x5)]) (S' := []) (fun _ _ => rfl) ?_
          have he0 := Option.some.inj hv
          obtain ⟨ha0, he1⟩ := Prod.mk.inj he0
          clear he0
          subst ha0
          subst he1
          exact ev_go 2 (pc' := 98) (L' := [some (.inr (.inr 155)), some (.inr (.inr 172)), some (.inl x8), some (.inl l3_2), some (.inl x5)]) (S' := []) (σ' := (SH L0, D9)) (fun _ _ => rfl) hJ
        · refine ev_iff hc 1 (pc' := 63) (L' := [some (.inr (.inr 155)), some (.inr (.inr 172)), some (.inl l2_1), some (.inl l3_2), some (.inl x5)]) (S' := []) (σ' := (SH L0, D4)) (fun _ _ => rfl) ?_
          obtain ⟨x10, hx, hv⟩ := bnd hv
          refine ev_bind hx 5 (pc' := 73) (L' := fun x10 => [some (.inr (.inr 155)), some (.inr (.inr 172)), some (.inl l2_1), some (.inl l3_2), some (.inl x5)]) (S' := fun x10 => [.inl x10]) (σ' := fun x10 => (SH L0, D4)) (fun _ _ => rfl) ?_
          rcases ite_or hv with ⟨hc, hv⟩ | ⟨hc, hv⟩
          · refine ev_ift hc 1 (pc' := 76) (L' := [some (.inr (.inr 155)), some (.inr (.inr 172)), some (.inl l2_1), some (.inl l3_2), some (.inl x5)]) (S' := []) (σ' := (SH L0, D4)) (fun _ _ => rfl) ?_
            have he0 := Option.some.inj hv
            obtain ⟨ha0, he1⟩ := Prod.mk.inj he0
            clear he0
            subst ha0
            subst he1
            exact ev_go 7 (pc' := 98) (L' := [some (.inr (.inr 155)), some (.inr (.inr 172)), some (.inl l2_1), some (.inl l3_2), some (.inl x5)]) (S' := []) (σ' := (SH L0, dput D4 155 9 (w32 ((D4 155 9) - 1)))) (fun _ _ => rfl) hJ
          · refine ev_iff hc 1 (pc' := 89) (L' := [some (.inr (.inr 155)), some (.inr (.inr 172)), some (.inl l2_1), some (.inl l3_2), some (.inl x5)]) (S' := []) (σ' := (SH L0, D4)) (fun _ _ => rfl) ?_
            obtain ⟨D11, hx, hv⟩ := bnd hv
            refine ev_call (e_X10_leave_155_172 L0 d (by omega) hx) 4 (pc' := 96) (L' := [some (.inr (.inr 155)), some (.inr (.inr 172)), some (.inl l2_1), some (.inl l3_2), some (.inl x5)]) (S' := []) (fun _ _ => rfl) ?_
            have he0 := Option.some.inj hv
            obtain ⟨ha0, he1⟩ := Prod.mk.inj he0
            clear he0
            subst ha0
            subst he1
            exact ev_go 2 (pc' := 98) (L' := [some (.inr (.inr 155)), some (.inr (.inr 172)), some (.inl 1), some (.inl l3_2), some (.inl x5)]) (S' := []) (σ' := (SH L0, D11)) (fun _ _ => rfl) hJ
    · refine ev_iff hc 2 (pc' := 104) (L' := [some (.inr (.inr 155)), some (.inr (.inr 172)), some (.inl l2_1), some (.inl l3_2), dv o3]) (S' := []) (σ' := (SH L0, D4)) (fun _ _ => rfl) ?_
      cases hb
      exact hK0 (some (.inl l2_1)) (some (.inl l3_2)) o3
  · refine ev_iff hc 3 (pc' := 104) (L' := [some (.inr (.inr 155)), some (.inr (.inr 172)), some (.inl l2_1), some (.inl l3_2), dv o3]) (S' := []) (σ' := (SH L0, D4)) (fun _ _ => rfl) ?_
    cases hb
    exact hK0 (some (.inl l2_1)) (some (.inl l3_2)) o3
set_option maxRecDepth 100000 in
set_option maxHeartbeats 4000000 in
theorem e_X10_goOn_155_177 (L0 d : Nat) (hd : 4 ≤ d) {D : DT} {t0 : DT} (h : m_X10_goOn 177 D = some t0) : Ret mtab d 122 [.inr (.inr 155), .inr (.inr 177)] (SH L0, D) (none, (SH L0, t0)) := by
  obtain ⟨d, rfl⟩ : ∃ e, d = e + 1 := ⟨d - 1, by omega⟩
  refine Ret.of (code := k_X10_goOn) (ml := 5) rfl ?_
  show EvF mtab d k_X10_goOn 0 [some (.inr (.inr 155)), some (.inr (.inr 177)), none, none, none] [] (SH L0, D) (none, (SH L0, t0))
  unfold m_X10_goOn at h
  obtain ⟨r, hr, h⟩ := bnd h
  have hX : (fun (r : DT) => ∀ (o14 : Option (Sum Int Nat)) (o15 : Option (Sum Int Nat)) (o16 : Option (Sum Int Nat)), EvF mtab d k_X10_goOn 104 [some (.inr (.inr 155)), some (.inr (.inr 177)), dv o14, dv o15, dv o16] [] (SH L0, r) (none, (SH L0, t0))) r := by
    obtain ⟨D17, hre⟩ : ∃ q, q = r := ⟨r, rfl⟩
    subst hre
    intro o14 o15 o16
    show EvF mtab d k_X10_goOn 104 [some (.inr (.inr 155)), some (.inr (.inr 177)), dv o14, dv o15, dv o16] [] (SH L0, D17) (none, (SH L0, t0))
    cases h
    exact ev_ret 1 (fun _ _ => rfl)
  clear h
  refine ev_go 4 (pc' := 4) (L' := [some (.inr (.inr 155)), some (.inr (.inr 177)), some (.inl 0), some (.inl 0), none]) (S' := []) (σ' := (SH L0, D)) (fun _ _ => rfl) ?_
  refine loop_ind (P := fun s => ∀ (o3 : Option (Sum Int Nat)), EvF mtab d k_X10_goOn 4 [some (.inr (.inr 155)), some (.inr (.inr 177)), some (.inl s.1), some (.inl s.2.1), dv o3] [] (SH L0, s.2.2) (none, (SH L0, t0))) (X := fun r => ∀ (o14 : Option (Sum Int Nat)) (o15 : Option (Sum Int Nat)) (o16 : Option (Sum Int Nat)), EvF mtab d k_X10_goOn 104 [some (.inr (.inr 155)), some (.inr (.inr 177)), dv o14, dv o15, dv o16] [] (SH L0, r) (none, (SH L0, t0))) hr hX ?_ none
  clear hr hX
  intro s t hb hK0
  obtain ⟨l2_1, l3_2, D4⟩ := s
  intro o3
  show EvF mtab d k_X10_goOn 4 [some (.inr (.inr 155)), some (.inr (.inr 177)), some (.inl l2_1), some (.inl l3_2), dv o3] [] (SH L0, D4) (none, (SH L0, t0))
  unfold b_X10_goOn_4 at hb
  rcases ite_or hb with ⟨hc, hb⟩ | ⟨hc, hb⟩
  · refine ev_ift hc 3 (pc' := 10) (L' := [some (.inr (.inr 155)), some (.inr (.inr 177)), some (.inl l2_1), some (.inl l3_2), dv o3]) (S' := []) (σ' := (SH L0, D4)) (fun _ _ => rfl) ?_
    rcases ite_or hb with ⟨hc, hb⟩ | ⟨hc, hb⟩
    · refine ev_ift hc 2 (pc' := 14) (L' := [some (.inr (.inr 155)), some (.inr (.inr 177)), some (.inl l2_1), some (.inl l3_2), dv o3]) (S' := []) (σ' := (SH L0, D4)) (fun _ _ => rfl) ?_
      rcases ite_or hb with ⟨hc, hb⟩ | ⟨hc, hb⟩
      · refine ev_ift hc 3 (pc' := 104) (L' := [some (.inr (.inr 155)), some (.inr (.inr 177)), some (.inl l2_1), some (.inl l3_2), dv o3]) (S' := []) (σ' := (SH L0, D4)) (fun _ _ => rfl) ?_
        cases hb
        exact hK0 (some (.inl l2_1)) (some (.inl l3_2)) o3
      · refine ev_iff hc 3 (pc' := 21) (L' := [some (.inr (.inr 155)), some (.inr (.inr 177)), some (.inl l2_1), some (.inl l3_2), dv o3]) (S' := []) (σ' := (SH L0, D4)) (fun _ _ => rfl) ?_
        obtain ⟨x5, hx, hb⟩ := bnd hb
        refine ev_bind hx 5 (pc' := 30) (L' := fun x5 => [some (.inr (.inr 155)), some (.inr (.inr 177)), some (.inl l2_1), some (.inl l3_2), dv o3]) (S' := fun x5 => [.inl x5]) (σ' := fun x5 => (SH L0, D4)) (fun _ _ => rfl) ?_
        obtain ⟨x6, hx, hb⟩ := bnd hb
        refine ev_bind hx 6 (pc' := 41) (L' := fun x6 => [some (.inr (.inr 155)), some (.inr (.inr 177)), some (.inl l2_1), some (.inl l3_2), some (.inl x5)]) (S' := fun x6 => [.inl x6]) (σ' := fun x6 => (SH L0, D4)) (fun _ _ => rfl) ?_
        obtain ⟨x7, hx, hb⟩ := bnd hb
        refine ev_call (e_X7_callsOf L0 d (by omega) hx) 4 (pc' := 50) (L' := [some (.inr (.inr 155)), some (.inr (.inr 177)), some (.inl l2_1), some (.inl l3_2), some (.inl x5)]) (S' := [.inl x6]) (fun _ _ => rfl) ?_
        obtain ⟨⟨l2_12, D13⟩, hv, hb⟩ := bnd hb
        have hJ : EvF mtab d k_X10_goOn 98 [some (.inr (.inr 155)), some (.inr (.inr 177)), some (.inl l2_12), some (.inl l3_2), some (.inl x5)] [] (SH L0, D13) (none, (SH L0, t0)) := by
          cases hb
          exact ev_go 2 (pc' := 4) (L' := [some (.inr (.inr 155)), some (.inr (.inr 177)), some (.inl l2_12), some (.inl (w32 (l3_2 + 1))), some (.inl x5)]) (S' := []) (σ' := (SH L0, D13)) (fun _ _ => rfl) (hK0 (some (.inl x5)))
        clear hb
        rcases ite_or hv with ⟨hc, hv⟩ | ⟨hc, hv⟩
        · refine ev_ift hc 1 (pc' := 53) (L' := [some (.inr (.inr 155)), some (.inr (.inr 177)), some (.inl l2_1), some (.inl l3_2), some (.inl x5)]) (S' := []) (σ' := (SH L0, D4)) (fun _ _ => rfl) ?_
          obtain ⟨⟨x8, D9⟩, hx, hv⟩ := bnd hv
          refine ev_call (e_X10_makeCall L0 d (by omega) hx) 3 (pc' := 59) (L' := [some (.inr (.inr 155)), some (.inr (.inr 177)), some (.inl l2_1), some (.inl l3_2), some (.inl x5)]) (S' := []) (fun _ _ => rfl) ?_
          have he0 := Option.some.inj hv
          obtain ⟨ha0, he1⟩ := Prod.mk.inj he0
          clear he0
          subst ha0
          subst he1
          exact ev_go 2 (pc' := 98) (L' := [some (.inr (.inr 155)), some (.inr (.inr 177)), some (.inl x8), some (.inl l3_2), some (.inl x5)]) (S' := []) (σ' := (SH L0, D9)) (fun _ _ => rfl) hJ
        · refine ev_iff hc 1 (pc' := 63) (L' := [some (.inr (.inr 155)), some (.inr (.inr 177)), some (.inl l2_1), some (.inl l3_2), some (.inl x5)]) (S' := []) (σ' := (SH L0, D4)) (fun _ _ => rfl) ?_
          obtain ⟨x10, hx, hv⟩ := bnd hv
          refine ev_bind hx 5 (pc' := 73) (L' := fun x10 => [some (.inr (.inr 155)), some (.inr (.inr 177)), some (.inl l2_1), some (.inl l3_2), some (.inl x5)]) (S' := fun x10 => [.inl x10]) (σ' := fun x10 => (SH L0, D4)) (fun _ _ => rfl) ?_
          rcases ite_or hv with ⟨hc, hv⟩ | ⟨hc, hv⟩
          · refine ev_ift hc 1 (pc' := 76) (L' := [some (.inr (.inr 155)), some (.inr (.inr 177)), some (.inl l2_1), some (.inl l3_2), some (.inl x5)]) (S' := []) (σ' := (SH L0, D4)) (fun _ _ => rfl) ?_
            have he0 := Option.some.inj hv
            obtain ⟨ha0, he1⟩ := Prod.mk.inj he0
            clear he0
            subst ha0
            subst he1
            exact ev_go 7 (pc' := 98) (L' := [some (.inr (.inr 155)), some (.inr (.inr 177)), some (.inl l2_1), some (.inl l3_2), some (.inl x5)]) (S' := []) (σ' := (SH L0, dput D4 155 9 (w32 ((D4 155 9) - 1)))) (fun _ _ => rfl) hJ
          · refine ev_iff hc 1 (pc' := 89) (L' := [some (.inr (.inr 155)), some (.inr (.inr 177)), some (.inl l2_1), some (.inl l3_2), some (.inl x5)]) (S' := []) (σ' := (SH L0, D4)) (fun _ _ => rfl) ?_
            obtain ⟨D11, hx, hv⟩ := bnd hv
            refine ev_call (e_X10_leave_155_177 L0 d (by omega) hx) 4 (pc' := 96) (L' := [some (.inr (.inr 155)), some (.inr (.inr 177)), some (.inl l2_1), some (.inl l3_2), some (.inl x5)]) (S' := []) (fun _ _ => rfl) ?_
            have he0 := Option.some.inj hv
            obtain ⟨ha0, he1⟩ := Prod.mk.inj he0
            clear he0
            subst ha0
            subst he1
            exact ev_go 2 (pc' := 98) (L' := [some (.inr (.inr 155)), some (.inr (.inr 177)), some (.inl 1), some (.inl l3_2), some (.inl x5)]) (S' := []) (σ' := (SH L0, D11)) (fun _ _ => rfl) hJ
    · refine ev_iff hc 2 (pc' := 104) (L' := [some (.inr (.inr 155)), some (.inr (.inr 177)), some (.inl l2_1), some (.inl l3_2), dv o3]) (S' := []) (σ' := (SH L0, D4)) (fun _ _ => rfl) ?_
      cases hb
      exact hK0 (some (.inl l2_1)) (some (.inl l3_2)) o3
  · refine ev_iff hc 3 (pc' := 104) (L' := [some (.inr (.inr 155)), some (.inr (.inr 177)), some (.inl l2_1), some (.inl l3_2), dv o3]) (S' := []) (σ' := (SH L0, D4)) (fun _ _ => rfl) ?_
    cases hb
    exact hK0 (some (.inl l2_1)) (some (.inl l3_2)) o3
set_option maxRecDepth 100000 in
set_option maxHeartbeats 4000000 in
theorem e_X10_goOn_155_182 (L0 d : Nat) (hd : 4 ≤ d) {D : DT} {t0 : DT} (h : m_X10_goOn 182 D = some t0) : Ret mtab d 122 [.inr (.inr 155), .inr (.inr 182)] (SH L0, D) (none, (SH L0, t0)) := by
  obtain ⟨d, rfl⟩ : ∃ e, d = e + 1 := ⟨d - 1, by omega⟩
  refine Ret.of (code := k_X10_goOn) (ml := 5) rfl ?_
  show EvF mtab d k_X10_goOn 0 [some (.inr (.inr 155)), some (.inr (.inr 182)), none, none, none] [] (SH L0, D) (none, (SH L0, t0))
  unfold m_X10_goOn at h
  obtain ⟨r, hr, h⟩ := bnd h
  have hX : (fun (r : DT) => ∀ (o14 : Option (Sum Int Nat)) (o15 : Option (Sum Int Nat)) (o16 : Option (Sum Int Nat)), EvF mtab d k_X10_goOn 104 [some (.inr (.inr 155)), some (.inr (.inr 182)), dv o14, dv o15, dv o16] [] (SH L0, r) (none, (SH L0, t0))) r := by
    obtain ⟨D17, hre⟩ : ∃ q, q = r := ⟨r, rfl⟩
    subst hre
    intro o14 o15 o16
    show EvF mtab d k_X10_goOn 104 [some (.inr (.inr 155)), some (.inr (.inr 182)), dv o14, dv o15, dv o16] [] (SH L0, D17) (none, (SH L0, t0))
    cases h
    exact ev_ret 1 (fun _ _ => rfl)
  clear h
  refine ev_go 4 (pc' := 4) (L' := [some (.inr (.inr 155)), some (.inr (.inr 182)), some (.inl 0), some (.inl 0), none]) (S' := []) (σ' := (SH L0, D)) (fun _ _ => rfl) ?_
  refine loop_ind (P := fun s => ∀ (o3 : Option (Sum Int Nat)), EvF mtab d k_X10_goOn 4 [some (.inr (.inr 155)), some (.inr (.inr 182)), some (.inl s.1), some (.inl s.2.1), dv o3] [] (SH L0, s.2.2) (none, (SH L0, t0))) (X := fun r => ∀ (o14 : Option (Sum Int Nat)) (o15 : Option (Sum Int Nat)) (o16 : Option (Sum Int Nat)), EvF mtab d k_X10_goOn 104 [some (.inr (.inr 155)), some (.inr (.inr 182)), dv o14, dv o15, dv o16] [] (SH L0, r) (none, (SH L0, t0))) hr hX ?_ none
  clear hr hX
  intro s t hb hK0
  obtain ⟨l2_1, l3_2, D4⟩ := s
  intro o3
  show EvF mtab d k_X10_goOn 4 [some (.inr (.inr 155)), some (.inr (.inr 182)), some (.inl l2_1), some (.inl l3_2), dv o3] [] (SH L0, D4) (none, (SH L0, t0))
  unfold b_X10_goOn_4 at hb
  rcases ite_or hb with ⟨hc, hb⟩ | ⟨hc, hb⟩
  · refine ev_ift hc 3 (pc' := 10) (L' := [some (.inr (.inr 155)), some (.inr (.inr 182)), some (.inl l2_1), some (.inl l3_2), dv o3]) (S' := []) (σ' := (SH L0, D4)) (fun _ _ => rfl) ?_
    rcases ite_or hb with ⟨hc, hb⟩ | ⟨hc, hb⟩
    · refine ev_ift hc 2 (pc' := 14) (L' := [some (.inr (.inr 155)), some (.inr (.inr 182)), some (.inl l2_1), some (.inl l3_2), dv o3]) (S' := []) (σ' := (SH L0, D4)) (fun _ _ => rfl) ?_
      rcases ite_or hb with ⟨hc, hb⟩ | ⟨hc, hb⟩
      · refine ev_ift hc 3 (pc' := 104) (L' := [some (.inr (.inr 155)), some (.inr (.inr 182)), some (.inl l2_1), some (.inl l3_2), dv o3]) (S' := []) (σ' := (SH L0, D4)) (fun _ _ => rfl) ?_
        cases hb
        exact hK0 (some (.inl l2_1)) (some (.inl l3_2)) o3
      · refine ev_iff hc 3 (pc' := 21) (L' := [some (.inr (.inr 155)), some (.inr (.inr 182)), some (.inl l2_1), some (.inl l3_2), dv o3]) (S' := []) (σ' := (SH L0, D4)) (fun _ _ => rfl) ?_
        obtain ⟨x5, hx, hb⟩ := bnd hb
        refine ev_bind hx 5 (pc' := 30) (L' := fun x5 => [some (.inr (.inr 155)), some (.inr (.inr 182)), some (.inl l2_1), some (.inl l3_2), dv o3]) (S' := fun x5 => [.inl x5]) (σ' := fun x5 => (SH L0, D4)) (fun _ _ => rfl) ?_
        obtain ⟨x6, hx, hb⟩ := bnd hb
        refine ev_bind hx 6 (pc' := 41) (L' := fun x6 => [some (.inr (.inr 155)), some (.inr (.inr 182)), some (.inl l2_1), some (.inl l3_2), some (.inl x5)]) (S' := fun x6 => [.inl x6]) (σ' := fun x6 => (SH L0, D4)) (fun _ _ => rfl) ?_
        obtain ⟨x7, hx, hb⟩ := bnd hb
        refine ev_call (e_X7_callsOf L0 d (by omega) hx) 4 (pc' := 50) (L' := [some (.inr (.inr 155)), some (.inr (.inr 182)), some (.inl l2_1), some (.inl l3_2), some (.inl x5)]) (S' := [.inl x6]) (fun _ _ => rfl) ?_
        obtain ⟨⟨l2_12, D13⟩, hv, hb⟩ := bnd hb
        have hJ : EvF mtab d k_X10_goOn 98 [some (.inr (.inr 155)), some (.inr (.inr 182)), some (.inl l2_12), some (.inl l3_2), some (.inl x5)] [] (SH L0, D13) (none, (SH L0, t0)) := by
          cases hb
          exact ev_go 2 (pc' := 4) (L' := [some (.inr (.inr 155)), some (.inr (.inr 182)), some (.inl l2_12), some (.inl (w32 (l3_2 + 1))), some (.inl x5)]) (S' := []) (σ' := (SH L0, D13)) (fun _ _ => rfl) (hK0 (some (.inl x5)))
        clear hb
        rcases ite_or hv with ⟨hc, hv⟩ | ⟨hc, hv⟩
        · refine ev_ift hc 1 (pc' := 53) (L' := [some (.inr (.inr 155)), some (.inr (.inr 182)), some (.inl l2_1), some (.inl l3_2), some (.inl x5)]) (S' := []) (σ' := (SH L0, D4)) (fun _ _ => rfl) ?_
          obtain ⟨⟨x8, D9⟩, hx, hv⟩ := bnd hv
          refine ev_call (e_X10_makeCall L0 d (by omega) hx) 3 (pc' := 59) (L' := [some (.inr (.inr 155)), some (.inr (.inr 182)), some (.inl l2_1), some (.inl l3_2), some (.inl x5)]) (S' := []) (fun _ _ => rfl) ?_
          have he0 := Option.some.inj hv
          obtain ⟨ha0, he1⟩ := Prod.mk.inj he0
          clear he0
          subst ha0
          subst he1
          exact ev_go 2 (pc' := 98) (L' := [some (.inr (.inr 155)), some (.inr (.inr 182)), some (.inl x8), some (.inl l3_2), some (.inl x5)]) (S' := []) (σ' := (SH L0, D9)) (fun _ _ => rfl) hJ
        · refine ev_iff hc 1 (pc' := 63) (L' := [some (.inr (.inr 155)), some (.inr (.inr 182)), some (.inl l2_1), some (.inl l3_2), some (.inl x5)]) (S' := []) (σ' := (SH L0, D4)) (fun _ _ => rfl) ?_
          obtain ⟨x10, hx, hv⟩ := bnd hv
          refine ev_bind hx 5 (pc' := 73) (L' := fun x10 => [some (.inr (.inr 155)), some (.inr (.inr 182)), some (.inl l2_1), some (.inl l3_2), some (.inl x5)]) (S' := fun x10 => [.inl x10]) (σ' := fun x10 => (SH L0, D4)) (fun _ _ => rfl) ?_
          rcases ite_or hv with ⟨hc, hv⟩ | ⟨hc, hv⟩
          · refine ev_ift hc 1 (pc' := 76) (L' := [some (.inr (.inr 155)), some (.inr (.inr 182)), some (.inl l2_1), some (.inl l3_2), some (.inl x5)]) (S' := []) (σ' := (SH L0, D4)) (fun _ _ => rfl) ?_
            have he0 := Option.some.inj hv
            obtain ⟨ha0, he1⟩ := Prod.mk.inj he0
            clear he0
            subst ha0
            subst he1
            exact ev_go 7 (pc' := 98) (L' := [some (.inr (.inr 155)), some (.inr (.inr 182)), some (.inl l2_1), some (.inl l3_2), some (.inl x5)]) (S' := []) (σ' := (SH L0, dput D4 155 9 (w32 ((D4 155 9) - 1)))) (fun _ _ => rfl) hJ
          · refine ev_iff hc 1 (pc' := 89) (L' := [some (.inr (.inr 155)), some (.inr (.inr 182)), some (.inl l2_1), some (.inl l3_2), some (.inl x5)]) (S' := []) (σ' := (SH L0, D4)) (fun _ _ => rfl) ?_
            obtain ⟨D11, hx, hv⟩ := bnd hv
            refine ev_call (e_X10_leave_155_182 L0 d (by omega) hx) 4 (pc' := 96) (L' := [some (.inr (.inr 155)), some (.inr (.inr 182)), some (.inl l2_1), some (.inl l3_2), some (.inl x5)]) (S' := []) (fun _ _ => rfl) ?_
            have he0 := Option.some.inj hv
            obtain ⟨ha0, he1⟩ := Prod.mk.inj he0
            clear he0
            subst ha0
            subst he1
            exact ev_go 2 (pc' := 98) (L' := [some (.inr (.inr 155)), some (.inr (.inr 182)), some (.inl 1), some (.inl l3_2), some (.inl x5)]) (S' := []) (σ' := (SH L0, D11)) (fun _ _ => rfl) hJ
    · refine ev_iff hc 2 (pc' := 104) (L' := [some (.inr (.inr 155)), some (.inr (.inr 182)), some (.inl l2_1), some (.inl l3_2), dv o3]) (S' := []) (σ' := (SH L0, D4)) (fun _ _ => rfl) ?_
      cases hb
      exact hK0 (some (.inl l2_1)) (some (.inl l3_2)) o3
  · refine ev_iff hc 3 (pc' := 104) (L' := [some (.inr (.inr 155)), some (.inr (.inr 182)), some (.inl l2_1), some (.inl l3_2), dv o3]) (S' := []) (σ' := (SH L0, D4)) (fun _ _ => rfl) ?_
    cases hb
    exact hK0 (some (.inl l2_1)) (some (.inl l3_2)) o3
set_option maxRecDepth 100000 in
set_option maxHeartbeats 4000000 in
theorem e_X10_follow_155_162_153 (L0 d : Nat) (hd : 5 ≤ d) {p3 p4 p5 : Int} {D : DT} {t0 : DT} (h : m_X10_follow 162 p3 p4 p5 D = some t0) : Ret mtab d 118 [.inr (.inr 155), .inr (.inr 162), .inr (.inr 153), .inl p3, .inl p4, .inl p5] (SH L0, D) (none, (SH L0, t0)) := by
  obtain ⟨d, rfl⟩ : ∃ e, d = e + 1 := ⟨d - 1, by omega⟩
  refine Ret.of (code := k_X10_follow) (ml := 6) rfl ?_
  show EvF mtab d k_X10_follow 0 [some (.inr (.inr 155)), some (.inr (.inr 162)), some (.inr (.inr 153)), some (.inl p3), some (.inl p4), some (.inl p5)] [] (SH L0, D) (none, (SH L0, t0))
  unfold m_X10_follow at h
  obtain ⟨x1, hx, h⟩ := bnd h
  refine ev_call (e_X7_entryOf_4 L0 d (by omega) hx) 20 (pc' := 35) (L' := [some (.inr (.inr 155)), some (.inr (.inr 162)), some (.inr (.inr 153)), some (.inl p3), some (.inl p4), some (.inl p5)]) (S' := [.inr (.inr 155)]) (fun _ _ => rfl) ?_
  obtain ⟨D2, hx, h⟩ := bnd h
  refine ev_call (e_X10_enter L0 d (by omega) hx) 1 (pc' := 38) (L' := [some (.inr (.inr 155)), some (.inr (.inr 162)), some (.inr (.inr 153)), some (.inl p3), some (.inl p4), some (.inl p5)]) (S' := []) (fun _ _ => rfl) ?_
  obtain ⟨r, hr, h⟩ := bnd h
  have hX : (fun (r : DT) => EvF mtab d k_X10_follow 92 [some (.inr (.inr 155)), some (.inr (.inr 162)), some (.inr (.inr 153)), some (.inl p3), some (.inl p4), some (.inl p5)] [] (SH L0, r) (none, (SH L0, t0))) r := by
    obtain ⟨D7, hre⟩ : ∃ q, q = r := ⟨r, rfl⟩
    subst hre
    show EvF mtab d k_X10_follow 92 [some (.inr (.inr 155)), some (.inr (.inr 162)), some (.inr (.inr 153)), some (.inl p3), some (.inl p4), some (.inl p5)] [] (SH L0, D7) (none, (SH L0, t0))
    cases h
    exact ev_ret 1 (fun _ _ => rfl)
  clear h
  refine ev_go 3 (pc' := 43) (L' := [some (.inr (.inr 155)), some (.inr (.inr 162)), some (.inr (.inr 153)), some (.inl p3), some (.inl p4), some (.inl p5)]) (S' := []) (σ' := (SH L0, dput D2 155 0 0)) (fun _ _ => rfl) ?_
  refine loop_ind (P := fun s => EvF mtab d k_X10_follow 43 [some (.inr (.inr 155)), some (.inr (.inr 162)), some (.inr (.inr 153)), some (.inl p3), some (.inl p4), some (.inl p5)] [] (SH L0, s) (none, (SH L0, t0))) (X := fun r => EvF mtab d k_X10_follow 92 [some (.inr (.inr 155)), some (.inr (.inr 162)), some (.inr (.inr 153)), some (.inl p3), some (.inl p4), some (.inl p5)] [] (SH L0, r) (none, (SH L0, t0))) hr hX ?_
  clear hr hX
  intro s t hb hK0
  obtain ⟨D3, hre⟩ : ∃ q, q = s := ⟨s, rfl⟩
  subst hre
  show EvF mtab d k_X10_follow 43 [some (.inr (.inr 155)), some (.inr (.inr 162)), some (.inr (.inr 153)), some (.inl p3), some (.inl p4), some (.inl p5)] [] (SH L0, D3) (none, (SH L0, t0))
  unfold b_X10_follow_43 at hb
  rcases ite_or hb with ⟨hc, hb⟩ | ⟨hc, hb⟩
  · refine ev_ift hc 4 (pc' := 52) (L' := [some (.inr (.inr 155)), some (.inr (.inr 162)), some (.inr (.inr 153)), some (.inl p3), some (.inl p4), some (.inl p5)]) (S' := []) (σ' := (SH L0, D3)) (fun _ _ => rfl) ?_
    rcases ite_or hb with ⟨hc, hb⟩ | ⟨hc, hb⟩
    · refine ev_ift hc 3 (pc' := 92) (L' := [some (.inr (.inr 155)), some (.inr (.inr 162)), some (.inr (.inr 153)), some (.inl p3), some (.inl p4), some (.inl p5)]) (S' := []) (σ' := (SH L0, D3)) (fun _ _ => rfl) ?_
      cases hb
      exact hK0
    · refine ev_iff hc 3 (pc' := 59) (L' := [some (.inr (.inr 155)), some (.inr (.inr 162)), some (.inr (.inr 153)), some (.inl p3), some (.inl p4), some (.inl p5)]) (S' := []) (σ' := (SH L0, D3)) (fun _ _ => rfl) ?_
      obtain ⟨x4, hx, hb⟩ := bnd hb
      refine ev_bind hx 8 (pc' := 71) (L' := fun x4 => [some (.inr (.inr 155)), some (.inr (.inr 162)), some (.inr (.inr 153)), some (.inl p3), some (.inl p4), some (.inl p5)]) (S' := fun x4 => [.inl x4, .inr (.inr 153), .inr (.inr 162), .inr (.inr 155)]) (σ' := fun x4 => (SH L0, D3)) (fun _ _ => rfl) ?_
      obtain ⟨D5, hx, hb⟩ := bnd hb
      refine ev_call (e_X10_use_155_162_153 L0 d (by omega) hx) 1 (pc' := 74) (L' := [some (.inr (.inr 155)), some (.inr (.inr 162)), some (.inr (.inr 153)), some (.inl p3), some (.inl p4), some (.inl p5)]) (S' := []) (fun _ _ => rfl) ?_
      obtain ⟨D6, hx, hb⟩ := bnd hb
      refine ev_call (e_X10_goOn_155_162 L0 d (by omega) hx) 3 (pc' := 79) (L' := [some (.inr (.inr 155)), some (.inr (.inr 162)), some (.inr (.inr 153)), some (.inl p3), some (.inl p4), some (.inl p5)]) (S' := []) (fun _ _ => rfl) ?_
      cases hb
      exact ev_go 7 (pc' := 43) (L' := [some (.inr (.inr 155)), some (.inr (.inr 162)), some (.inr (.inr 153)), some (.inl p3), some (.inl p4), some (.inl p5)]) (S' := []) (σ' := (SH L0, dput D6 155 0 (w32 ((D6 155 0) + 1)))) (fun _ _ => rfl) hK0
  · refine ev_iff hc 4 (pc' := 92) (L' := [some (.inr (.inr 155)), some (.inr (.inr 162)), some (.inr (.inr 153)), some (.inl p3), some (.inl p4), some (.inl p5)]) (S' := []) (σ' := (SH L0, D3)) (fun _ _ => rfl) ?_
    cases hb
    exact hK0
set_option maxRecDepth 100000 in
set_option maxHeartbeats 4000000 in
theorem e_X10_follow_155_167_153 (L0 d : Nat) (hd : 5 ≤ d) {p3 p4 p5 : Int} {D : DT} {t0 : DT} (h : m_X10_follow 167 p3 p4 p5 D = some t0) : Ret mtab d 118 [.inr (.inr 155), .inr (.inr 167), .inr (.inr 153), .inl p3, .inl p4, .inl p5] (SH L0, D) (none, (SH L0, t0)) := by
  obtain ⟨d, rfl⟩ : ∃ e, d = e + 1 := ⟨d - 1, by omega⟩
  refine Ret.of (code := k_X10_follow) (ml := 6) rfl ?_
  show EvF mtab d k_X10_follow 0 [some (.inr (.inr 155)), some (.inr (.inr 167)), some (.inr (.inr 153)), some (.inl p3), some (.inl p4), some (.inl p5)] [] (SH L0, D) (none, (SH L0, t0))
  unfold m_X10_follow at h
  obtain ⟨x1, hx, h⟩ := bnd h
  refine ev_call (e_X7_entryOf_4 L0 d (by omega) hx) 20 (pc' := 35) (L' := [some (.inr (.inr 155)), some (.inr (.inr 167)), some (.inr (.inr 153)), some (.inl p3), some (.inl p4), some (.inl p5)]) (S' := [.inr (.inr 155)]) (fun _ _ => rfl) ?_
  obtain ⟨D2, hx, h⟩ := bnd h
  refine ev_call (e_X10_enter L0 d (by omega) hx) 1 (pc' := 38) (L' := [some (.inr (.inr 155)), some (.inr (.inr 167)), some (.inr (.inr 153)), some (.inl p3), some (.inl p4), some (.inl p5)]) (S' := []) (fun _ _ => rfl) ?_
  obtain ⟨r, hr, h⟩ := bnd h
  have hX : (fun (r : DT) => EvF mtab d k_X10_follow 92 [some (.inr (.inr 155)), some (.inr (.inr 167)), some (.inr (.inr 153)), some (.inl p3), some (.inl p4), some (.inl p5)] [] (SH L0, r) (none, (SH L0, t0))) r := by
    obtain ⟨D7, hre⟩ : ∃ q, q = r := ⟨r, rfl⟩
    subst hre
    show EvF mtab d k_X10_follow 92 [some (.inr (.inr 155)), some (.inr (.inr 167)), some (.inr (.inr 153)), some (.inl p3), some (.inl p4), some (.inl p5)] [] (SH L0, D7) (none, (SH L0, t0))
    cases h
    exact ev_ret 1 (fun _ _ => rfl)
  clear h
  refine ev_go 3 (pc' := 43) (L' := [some (.inr (.inr 155)), some (.inr (.inr 167)), some (.inr (.inr 153)), some (.inl p3), some (.inl p4), some (.inl p5)]) (S' := []) (σ' := (SH L0, dput D2 155 0 0)) (fun _ _ => rfl) ?_
  refine loop_ind (P := fun s => EvF mtab d k_X10_follow 43 [some (.inr (.inr 155)), some (.inr (.inr 167)), some (.inr (.inr 153)), some (.inl p3), some (.inl p4), some (.inl p5)] [] (SH L0, s) (none, (SH L0, t0))) (X := fun r => EvF mtab d k_X10_follow 92 [some (.inr (.inr 155)), some (.inr (.inr 167)), some (.inr (.inr 153)), some (.inl p3), some (.inl p4), some (.inl p5)] [] (SH L0, r) (none, (SH L0, t0))) hr hX ?_
  clear hr hX
  intro s t hb hK0
  obtain ⟨D3, hre⟩ : ∃ q, q = s := ⟨s, rfl⟩
  subst hre
  show EvF mtab d k_X10_follow 43 [some (.inr (.inr 155)), some (.inr (.inr 167)), some (.inr (.inr 153)), some (.inl p3), some (.inl p4), some (.inl p5)] [] (SH L0, D3) (none, (SH L0, t0))
  unfold b_X10_follow_43 at hb
  rcases ite_or hb with ⟨hc, hb⟩ | ⟨hc, hb⟩
  · refine ev_ift hc 4 (pc' := 52) (L' := [some (.inr (.inr 155)), some (.inr (.inr 167)), some (.inr (.inr 153)), some (.inl p3), some (.inl p4), some (.inl p5)]) (S' := []) (σ' := (SH L0, D3)) (fun _ _ => rfl) ?_
    rcases ite_or hb with ⟨hc, hb⟩ | ⟨hc, hb⟩
    · refine ev_ift hc 3 (pc' := 92) (L' := [some (.inr (.inr 155)), some (.inr (.inr 167)), some (.inr (.inr 153)), some (.inl p3), some (.inl p4), some (.inl p5)]) (S' := []) (σ' := (SH L0, D3)) (fun _ _ => rfl) ?_
      cases hb
      exact hK0
    · refine ev_iff hc 3 (pc' := 59) (L' := [some (.inr (.inr 155)), some (.inr (.inr 167)), some (.inr (.inr 153)), some (.inl p3), some (.inl p4), some (.inl p5)]) (S' := []) (σ' := (SH L0, D3)) (fun _ _ => rfl) ?_
      obtain ⟨x4, hx, hb⟩ := bnd hb
      refine ev_bind hx 8 (pc' := 71) (L' := fun x4 => [some (.inr (.inr 155)), some (.inr (.inr 167)), some (.inr (.inr 153)), some (.inl p3), some (.inl p4), some (.inl p5)]) (S' := fun x4 => [.inl x4, .inr (.inr 153), .inr (.inr 167), .inr (.inr 155)]) (σ' := fun x4 => (SH L0, D3)) (fun _ _ => rfl) ?_
      obtain ⟨D5, hx, hb⟩ := bnd hb
      refine ev_call (e_X10_use_155_167_153 L0 d (by omega) hx) 1 (pc' := 74) (L' := [some (.inr (.inr 155)), some (.inr (.inr 167)), some (.inr (.inr 153)), some (.inl p3), some (.inl p4), some (.inl p5)]) (S' := []) (fun _ _ => rfl) ?_
      obtain ⟨D6, hx, hb⟩ := bnd hb
      refine ev_call (e_X10_goOn_155_167 L0 d (by omega) hx) 3 (pc' := 79) (L' := [some (.inr (.inr 155)), some (.inr (.inr 167)), some (.inr (.inr 153)), some (.inl p3), some (.inl p4), some (.inl p5)]) (S' := []) (fun _ _ => rfl) ?_
      cases hb
      exact ev_go 7 (pc' := 43) (L' := [some (.inr (.inr 155)), some (.inr (.inr 167)), some (.inr (.inr 153)), some (.inl p3), some (.inl p4), some (.inl p5)]) (S' := []) (σ' := (SH L0, dput D6 155 0 (w32 ((D6 155 0) + 1)))) (fun _ _ => rfl) hK0
  · refine ev_iff hc 4 (pc' := 92) (L' := [some (.inr (.inr 155)), some (.inr (.inr 167)), some (.inr (.inr 153)), some (.inl p3), some (.inl p4), some (.inl p5)]) (S' := []) (σ' := (SH L0, D3)) (fun _ _ => rfl) ?_
    cases hb
    exact hK0
set_option maxRecDepth 100000 in
set_option maxHeartbeats 4000000 in
theorem e_X10_follow_155_172_153 (L0 d : Nat) (hd : 5 ≤ d) {p3 p4 p5 : Int} {D : DT} {t0 : DT} (h : m_X10_follow 172 p3 p4 p5 D = some t0) : Ret mtab d 118 [.inr (.inr 155), .inr (.inr 172), .inr (.inr 153), .inl p3, .inl p4, .inl p5] (SH L0, D) (none, (SH L0, t0)) := by
  obtain ⟨d, rfl⟩ : ∃ e, d = e + 1 := ⟨d - 1, by omega⟩
  refine Ret.of (code := k_X10_follow) (ml := 6) rfl ?_
  show EvF mtab d k_X10_follow 0 [some (.inr (.inr 155)), some (.inr (.inr 172)), some (.inr (.inr 153)), some (.inl p3), some (.inl p4), some (.inl p5)] [] (SH L0, D) (none, (SH L0, t0))
  unfold m_X10_follow at h
  obtain ⟨x1, hx, h⟩ := bnd h
  refine ev_call (e_X7_entryOf_4 L0 d (by omega) hx) 20 (pc' := 35) (L' := [some (.inr (.inr 155)), some (.inr (.inr 172)), some (.inr (.inr 153)), some (.inl p3), some (.inl p4), some (.inl p5)]) (S' := [.inr (.inr 155)]) (fun _ _ => rfl) ?_
  obtain ⟨D2, hx, h⟩ := bnd h
  refine ev_call (e_X10_enter L0 d (by omega) hx) 1 (pc' := 38) (L' := [some (.inr (.inr 155)), some (.inr (.inr 172)), some (.inr (.inr 153)), some (.inl p3), some (.inl p4), some (.inl p5)]) (S' := []) (fun _ _ => rfl) ?_
  obtain ⟨r, hr, h⟩ := bnd h
  have hX : (fun (r : DT) => EvF mtab d k_X10_follow 92 [some (.inr (.inr 155)), some (.inr (.inr 172)), some (.inr (.inr 153)), some (.inl p3), some (.inl p4), some (.inl p5)] [] (SH L0, r) (none, (SH L0, t0))) r := by
    obtain ⟨D7, hre⟩ : ∃ q, q = r := ⟨r, rfl⟩
    subst hre
    show EvF mtab d k_X10_follow 92 [some (.inr (.inr 155)), some (.inr (.inr 172)), some (.inr (.inr 153)), some (.inl p3), some (.inl p4), some (.inl p5)] [] (SH L0, D7) (none, (SH L0, t0))
    cases h
    exact ev_ret 1 (fun _ _ => rfl)
  clear h
  refine ev_go 3 (pc' := 43) (L' := [some (.inr (.inr 155)), some (.inr (.inr 172)), some (.inr (.inr 153)), some (.inl p3), some (.inl p4), some (.inl p5)]) (S' := []) (σ' := (SH L0, dput D2 155 0 0)) (fun _ _ => rfl) ?_
  refine loop_ind (P := fun s => EvF mtab d k_X10_follow 43 [some (.inr (.inr 155)), some (.inr (.inr 172)), some (.inr (.inr 153)), some (.inl p3), some (.inl p4), some (.inl p5)] [] (SH L0, s) (none, (SH L0, t0))) (X := fun r => EvF mtab d k_X10_follow 92 [some (.inr (.inr 155)), some (.inr (.inr 172)), some (.inr (.inr 153)), some (.inl p3), some (.inl p4), some (.inl p5)] [] (SH L0, r) (none, (SH L0, t0))) hr hX ?_
  clear hr hX
  intro s t hb hK0
  obtain ⟨D3, hre⟩ : ∃ q, q = s := ⟨s, rfl⟩
  subst hre
  show EvF mtab d k_X10_follow 43 [some (.inr (.inr 155)), some (.inr (.inr 172)), some (.inr (.inr 153)), some (.inl p3), some (.inl p4), some (.inl p5)] [] (SH L0, D3) (none, (SH L0, t0))
  unfold b_X10_follow_43 at hb
  rcases ite_or hb with ⟨hc, hb⟩ | ⟨hc, hb⟩
  · refine ev_ift hc 4 (pc' := 52) (L' := [some (.inr (.inr 155)), some (.inr (.inr 172)), some (.inr (.inr 153)), some (.inl p3), some (.inl p4), some (.inl p5)]) (S' := []) (σ' := (SH L0, D3)) (fun _ _ => rfl) ?_
    rcases ite_or hb with ⟨hc, hb⟩ | ⟨hc, hb⟩
    · refine ev_ift hc 3 (pc' := 92) (L' := [some (.inr (.inr 155)), some (.inr (.inr 172)), some (.inr (.inr 153)), some (.inl p3), some (.inl p4), some (.inl p5)]) (S' := []) (σ' := (SH L0, D3)) (fun _ _ => rfl) ?_
      cases hb
      exact hK0
    · refine ev_iff hc 3 (pc' := 59) (L' := [some (.inr (.inr 155)), some (.inr (.inr 172)), some (.inr (.inr 153)), some (.inl p3), some (.inl p4), some (.inl p5)]) (S' := []) (σ' := (SH L0, D3)) (fun _ _ => rfl) ?_
      obtain ⟨x4, hx, hb⟩ := bnd hb
      refine ev_bind hx 8 (pc' := 71) (L' := fun x4 => [some (.inr (.inr 155)), some (.inr (.inr 172)), some (.inr (.inr 153)), some (.inl p3), some (.inl p4), some (.inl p5)]) (S' := fun x4 => [.inl x4, .inr (.inr 153), .inr (.inr 172), .inr (.inr 155)]) (σ' := fun x4 => (SH L0, D3)) (fun _ _ => rfl) ?_
      obtain ⟨D5, hx, hb⟩ := bnd hb
      refine ev_call (e_X10_use_155_172_153 L0 d (by omega) hx) 1 (pc' := 74) (L' := [some (.inr (.inr 155)), some (.inr (.inr 172)), some (.inr (.inr 153)), some (.inl p3), some (.inl p4), some (.inl p5)]) (S' := []) (fun _ _ => rfl) ?_
      obtain ⟨D6, hx, hb⟩ := bnd hb
      refine ev_call (e_X10_goOn_155_172 L0 d (by omega) hx) 3 (pc' := 79) (L' := [some (.inr (.inr 155)), some (.inr (.inr 172)), some (.inr (.inr 153)), some (.inl p3), some (.inl p4), some (.inl p5)]) (S' := []) (fun _ _ => rfl) ?_
      cases hb
      exact ev_go 7 (pc' := 43) (L' := [some (.inr (.inr 155)), some (.inr (.inr 172)), some (.inr (.inr 153)), some (.inl p3), some (.inl p4), some (.inl p5)]) (S' := []) (σ' := (SH L0, dput D6 155 0 (w32 ((D6 155 0) + 1)))) (fun _ _ => rfl) hK0
  · refine ev_iff hc 4 (pc' := 92) (L' := [some (.inr (.inr 155)), some (.inr (.inr 172)), some (.inr (.inr 153)), some (.inl p3), some (.inl p4), some (.inl p5)]) (S' := []) (σ' := (SH L0, D3)) (fun _ _ => rfl) ?_
    cases hb
    exact hK0
set_option maxRecDepth 100000 in
set_option maxHeartbeats 4000000 in
theorem e_X10_follow_155_177_153 (L0 d : Nat) (hd : 5 ≤ d) {p3 p4 p5 : Int} {D : DT} {t0 : DT} (h : m_X10_follow 177 p3 p4 p5 D = some t0) : Ret mtab d 118 [.inr (.inr 155), .inr (.inr 177), .inr (.inr 153), .inl p3, .inl p4, .inl p5] (SH L0, D) (none, (SH L0, t0)) := by
  obtain ⟨d, rfl⟩ : ∃ e, d = e + 1 := ⟨d - 1, by omega⟩
  refine Ret.of (code := k_X10_follow) (ml := 6) rfl ?_
  show EvF mtab d k_X10_follow 0 [some (.inr (.inr 155)), some (.inr (.inr 177)), some (.inr (.inr 153)), some (.inl p3), some (.inl p4), some (.inl p5)] [] (SH L0, D) (none, (SH L0, t0))
  unfold m_X10_follow at h
  obtain ⟨x1, hx, h⟩ := bnd h
  refine ev_call (e_X7_entryOf_4 L0 d (by omega) hx) 20 (pc' := 35) (L' := [some (.inr (.inr 155)), some (.inr (.inr 177)), some (.inr (.inr 153)), some (.inl p3), some (.inl p4), some (.inl p5)]) (S' := [.inr (.inr 155)]) (fun _ _ => rfl) ?_
  obtain ⟨D2, hx, h⟩ := bnd h
  refine ev_call (e_X10_enter L0 d (by omega) hx) 1 (pc' := 38) (L' := [some (.inr (.inr 155)), some (.inr (.inr 177)), some (.inr (.inr 153)), some (.inl p3), some (.inl p4), some (.inl p5)]) (S' := []) (fun _ _ => rfl) ?_
  obtain ⟨r, hr, h⟩ := bnd h
  have hX : (fun (r : DT) => EvF mtab d k_X10_follow 92 [some (.inr (.inr 155)), some (.inr (.inr 177)), some (.inr (.inr 153)), some (.inl p3), some (.inl p4), some (.inl p5)] [] (SH L0, r) (none, (SH L0, t0))) r := by
    obtain ⟨D7, hre⟩ : ∃ q, q = r := ⟨r, rfl⟩
    subst hre
    show EvF mtab d k_X10_follow 92 [some (.inr (.inr 155)), some (.inr (.inr 177)), some (.inr (.inr 153)), some (.inl p3), some (.inl p4), some (.inl p5)] [] (SH L0, D7) (none, (SH L0, t0))
    cases h
    exact ev_ret 1 (fun _ _ => rfl)
  clear h
  refine ev_go 3 (pc' := 43) (L' := [some (.inr (.inr 155)), some (.inr (.inr 177)), some (.inr (.inr 153)), some (.inl p3), some (.inl p4), some (.inl p5)]) (S' := []) (σ' := (SH L0, dput D2 155 0 0)) (fun _ _ => rfl) ?_
  refine loop_ind (P := fun s => EvF mtab d k_X10_follow 43 [some (.inr (.inr 155)), some (.inr (.inr 177)), some (.inr (.inr 153)), some (.inl p3), some (.inl p4), some (.inl p5)] [] (SH L0, s) (none, (SH L0, t0))) (X := fun r => EvF mtab d k_X10_follow 92 [some (.inr (.inr 155)), some (.inr (.inr 177)), some (.inr (.inr 153)), some (.inl p3), some (.inl p4), some (.inl p5)] [] (SH L0, r) (none, (SH L0, t0))) hr hX ?_
  clear hr hX
  intro s t hb hK0
  obtain ⟨D3, hre⟩ : ∃ q, q = s := ⟨s, rfl⟩
  subst hre
  show EvF mtab d k_X10_follow 43 [some (.inr (.inr 155)), some (.inr (.inr 177)), some (.inr (.inr 153)), some (.inl p3), some (.inl p4), some (.inl p5)] [] (SH L0, D3) (none, (SH L0, t0))
  unfold b_X10_follow_43 at hb
  rcases ite_or hb with ⟨hc, hb⟩ | ⟨hc, hb⟩
  · refine ev_ift hc 4 (pc' := 52) (L' := [some (.inr (.inr 155)), some (.inr (.inr 177)), some (.inr (.inr 153)), some (.inl p3), some (.inl p4), some (.inl p5)]) (S' := []) (σ' := (SH L0, D3)) (fun _ _ => rfl) ?_
    rcases ite_or hb with ⟨hc, hb⟩ | ⟨hc, hb⟩
    · refine ev_ift hc 3 (pc' := 92) (L' := [some (.inr (.inr 155)), some (.inr (.inr 177)), some (.inr (.inr 153)), some (.inl p3), some (.inl p4), some (.inl p5)]) (S' := []) (σ' := (SH L0, D3)) (fun _ _ => rfl) ?_
      cases hb
      exact hK0
    · refine ev_iff hc 3 (pc' := 59) (L' := [some (.inr (.inr 155)), some (.inr (.inr 177)), some (.inr (.inr 153)), some (.inl p3), some (.inl p4), some (.inl p5)]) (S' := []) (σ' := (SH L0, D3)) (fun _ _ => rfl) ?_
      obtain ⟨x4, hx, hb⟩ := bnd hb
      refine ev_bind hx 8 (pc' := 71) (L' := fun x4 => [some (.inr (.inr 155)), some (.inr (.inr 177)), some (.inr (.inr 153)), some (.inl p3), some (.inl p4), some (.inl p5)]) (S' := fun x4 => [.inl x4, .inr (.inr 153), .inr (.inr 177), .inr (.inr 155)]) (σ' := fun x4 => (SH L0, D3)) (fun _ _ => rfl) ?_
      obtain ⟨D5, hx, hb⟩ := bnd hb
      refine ev_call (e_X10_use_155_177_153 L0 d (by omega) hx) 1 (pc' := 74) (L' := [some (.inr (.inr 155)), some (.inr (.inr 177)), some (.inr (.inr 153)), some (.inl p3), some (.inl p4), some (.inl p5)]) (S' := []) (fun _ _ => rfl) ?_
      obtain ⟨D6, hx, hb⟩ := bnd hb
      refine ev_call (e_X10_goOn_155_177 L0 d (by omega) hx) 3 (pc' := 79) (L' := [some (.inr (.inr 155)), some (.inr (.inr 177)), some (.inr (.inr 153)), some (.inl p3), some (.inl p4), some (.inl p5)]) (S' := []) (fun _ _ => rfl) ?_
      cases hb
      exact ev_go 7 (pc' := 43) (L' := [some (.inr (.inr 155)), some (.inr (.inr 177)), some (.inr (.inr 153)), some (.inl p3), some (.inl p4), some (.inl p5)]) (S' := []) (σ' := (SH L0, dput D6 155 0 (w32 ((D6 155 0) + 1)))) (fun _ _ => rfl) hK0
  · refine ev_iff hc 4 (pc' := 92) (L' := [some (.inr (.inr 155)), some (.inr (.inr 177)), some (.inr (.inr 153)), some (.inl p3), some (.inl p4), some (.inl p5)]) (S' := []) (σ' := (SH L0, D3)) (fun _ _ => rfl) ?_
    cases hb
    exact hK0
set_option maxRecDepth 100000 in
set_option maxHeartbeats 4000000 in
theorem e_X10_follow_155_182_153 (L0 d : Nat) (hd : 5 ≤ d) {p3 p4 p5 : Int} {D : DT} {t0 : DT} (h : m_X10_follow 182 p3 p4 p5 D = some t0) : Ret mtab d 118 [.inr (.inr 155), .inr (.inr 182), .inr (.inr 153), .inl p3, .inl p4, .inl p5] (SH L0, D) (none, (SH L0, t0)) := by
  obtain ⟨d, rfl⟩ : ∃ e, d = e + 1 := ⟨d - 1, by omega⟩
  refine Ret.of (code := k_X10_follow) (ml := 6) rfl ?_
  show EvF mtab d k_X10_follow 0 [some (.inr (.inr 155)), some (.inr (.inr 182)), some (.inr (.inr 153)), some (.inl p3), some (.inl p4), some (.inl p5)] [] (SH L0, D) (none, (SH L0, t0))
  unfold m_X10_follow at h
  obtain ⟨x1, hx, h⟩ := bnd h
  refine ev_call (e_X7_entryOf_4 L0 d (by omega) hx) 20 (pc' := 35) (L' := [some (.inr (.inr 155)), some (.inr (.inr 182)), some (.inr (.inr 153)), some (.inl p3), some (.inl p4), some (.inl p5)]) (S' := [.inr (.inr 155)]) (fun _ _ => rfl) ?_
  obtain ⟨D2, hx, h⟩ := bnd h
  refine ev_call (e_X10_enter L0 d (by omega) hx) 1 (pc' := 38) (L' := [some (.inr (.inr 155)), some (.inr (.inr 182)), some (.inr (.inr 153)), some (.inl p3), some (.inl p4), some (.inl p5)]) (S' := []) (fun _ _ => rfl) ?_
  obtain ⟨r, hr, h⟩ := bnd h
  have hX : (fun (r : DT) => EvF mtab d k_X10_follow 92 [some (.inr (.inr 155)), some (.inr (.inr 182)), some (.inr (.inr 153)), some (.inl p3), some (.inl p4), some (.inl p5)] [] (SH L0, r) (none, (SH L0, t0))) r := by
    obtain ⟨D7, hre⟩ : ∃ q, q = r := ⟨r, rfl⟩
    subst hre
    show EvF mtab d k_X10_follow 92 [some (.inr (.inr 155)), some (.inr (.inr 182)), some (.inr (.inr 153)), some (.inl p3), some (.inl p4), some (.inl p5)] [] (SH L0, D7) (none, (SH L0, t0))
    cases h
    exact ev_ret 1 (fun _ _ => rfl)
  clear h
  refine ev_go 3 (pc' := 43) (L' := [some (.inr (.inr 155)), some (.inr (.inr 182)), some (.inr (.inr 153)), some (.inl p3), some (.inl p4), some (.inl p5)]) (S' := []) (σ' := (SH L0, dput D2 155 0 0)) (fun _ _ => rfl) ?_
  refine loop_ind (P := fun s => EvF mtab d k_X10_follow 43 [some (.inr (.inr 155)), some (.inr (.inr 182)), some (.inr (.inr 153)), some (.inl p3), some (.inl p4), some (.inl p5)] [] (SH L0, s) (none, (SH L0, t0))) (X := fun r => EvF mtab d k_X10_follow 92 [some (.inr (.inr 155)), some (.inr (.inr 182)), some (.inr (.inr 153)), some (.inl p3), some (.inl p4), some (.inl p5)] [] (SH L0, r) (none, (SH L0, t0))) hr hX ?_
  clear hr hX
  intro s t hb hK0
  obtain ⟨D3, hre⟩ : ∃ q, q = s := ⟨s, rfl⟩
  subst hre
  show EvF mtab d k_X10_follow 43 [some (.inr (.inr 155)), some (.inr (.inr 182)), some (.inr (.inr 153)), some (.inl p3), some (.inl p4), some (.inl p5)] [] (SH L0, D3) (none, (SH L0, t0))
  unfold b_X10_follow_43 at hb
  rcases ite_or hb with ⟨hc, hb⟩ | ⟨hc, hb⟩
  · refine ev_ift hc 4 (pc' := 52) (L' := [some (.inr (.inr 155)), some (.inr (.inr 182)), some (.inr (.inr 153)), some (.inl p3), some (.inl p4), some (.inl p5)]) (S' := []) (σ' := (SH L0, D3)) (fun _ _ => rfl) ?_
    rcases ite_or hb with ⟨hc, hb⟩ | ⟨hc, hb⟩
    · refine ev_ift hc 3 (pc' := 92) (L' := [some (.inr (.inr 155)), some (.inr (.inr 182)), some (.inr (.inr 153)), some (.inl p3), some (.inl p4), some (.inl p5)]) (S' := []) (σ' := (SH L0, D3)) (fun _ _ => rfl) ?_
      cases hb
      exact hK0
    · refine ev_iff hc 3 (pc' := 59) (L' := [some (.inr (.inr 155)), some (.inr (.inr 182)), some (.inr (.inr 153)), some (.inl p3), some (.inl p4), some (.inl p5)]) (S' := []) (σ' := (SH L0, D3)) (fun _ _ => rfl) ?_
      obtain ⟨x4, hx, hb⟩ := bnd hb
      refine ev_bind hx 8 (pc' := 71) (L' := fun x4 => [some (.inr (.inr 155)), some (.inr (.inr 182)), some (.inr (.inr 153)), some (.inl p3), some (.inl p4), some (.inl p5)]) (S' := fun x4 => [.inl x4, .inr (.inr 153), .inr (.inr 182), .inr (.inr 155)]) (σ' := fun x4 => (SH L0, D3)) (fun _ _ => rfl) ?_
      obtain ⟨D5, hx, hb⟩ := bnd hb
      refine ev_call (e_X10_use_155_182_153 L0 d (by omega) hx) 1 (pc' := 74) (L' := [some (.inr (.inr 155)), some (.inr (.inr 182)), some (.inr (.inr 153)), some (.inl p3), some (.inl p4), some (.inl p5)]) (S' := []) (fun _ _ => rfl) ?_
      obtain ⟨D6, hx, hb⟩ := bnd hb
      refine ev_call (e_X10_goOn_155_182 L0 d (by omega) hx) 3 (pc' := 79) (L' := [some (.inr (.inr 155)), some (.inr (.inr 182)), some (.inr (.inr 153)), some (.inl p3), some (.inl p4), some (.inl p5)]) (S' := []) (fun _ _ => rfl) ?_
      cases hb
      exact ev_go 7 (pc' := 43) (L' := [some (.inr (.inr 155)), some (.inr (.inr 182)), some (.inr (.inr 153)), some (.inl p3), some (.inl p4), some (.inl p5)]) (S' := []) (σ' := (SH L0, dput D6 155 0 (w32 ((D6 155 0) + 1)))) (fun _ _ => rfl) hK0
  · refine ev_iff hc 4 (pc' := 92) (L' := [some (.inr (.inr 155)), some (.inr (.inr 182)), some (.inr (.inr 153)), some (.inl p3), some (.inl p4), some (.inl p5)]) (S' := []) (σ' := (SH L0, D3)) (fun _ _ => rfl) ?_
    cases hb
    exact hK0
set_option maxRecDepth 100000 in
set_option maxHeartbeats 4000000 in
theorem e_X11_status (L0 d : Nat) (hd : 1 ≤ d) {D : DT} {t0 : Int} (h : m_X11_status  D = some t0) : Ret mtab d 127 [.inr (.inr 2)] (SH L0, D) (some (.inl t0), (SH L0, D)) := by
  obtain ⟨d, rfl⟩ : ∃ e, d = e + 1 := ⟨d - 1, by omega⟩
  refine Ret.of (code := k_X11_status) (ml := 1) rfl ?_
  show EvF mtab d k_X11_status 0 [some (.inr (.inr 2))] [] (SH L0, D) (some (.inl t0), (SH L0, D))
  unfold m_X11_status at h
  cases h
  exact ev_ret 3 (fun _ _ => rfl)
set_option maxRecDepth 100000 in
set_option maxHeartbeats 4000000 in
theorem e_X11_write (L0 d : Nat) (hd : 1 ≤ d) {p1 : Int} {D : DT} {t0 : DT} (h : m_X11_write p1 D = some t0) : Ret mtab d 158 [.inr (.inr 2), .inl p1] (SH L0, D) (none, (SH L0, t0)) := by
  obtain ⟨d, rfl⟩ : ∃ e, d = e + 1 := ⟨d - 1, by omega⟩
  refine Ret.of (code := k_X11_write) (ml := 3) rfl ?_
  show EvF mtab d k_X11_write 0 [some (.inr (.inr 2)), some (.inl p1), none] [] (SH L0, D) (none, (SH L0, t0))
  unfold m_X11_write at h
  obtain ⟨r, hr, h⟩ := bnd h
  have hX : (fun (r : DT) => ∀ (o4 : Option (Sum Int Nat)), EvF mtab d k_X11_write 46 [some (.inr (.inr 2)), some (.inl p1), dv o4] [] (SH L0, r) (none, (SH L0, t0))) r := by
    obtain ⟨D5, hre⟩ : ∃ q, q = r := ⟨r, rfl⟩
    subst hre
    intro o4
    show EvF mtab d k_X11_write 46 [some (.inr (.inr 2)), some (.inl p1), dv o4] [] (SH L0, D5) (none, (SH L0, t0))
    cases h
    exact ev_ret 1 (fun _ _ => rfl)
  clear h
  refine ev_go 2 (pc' := 3) (L' := [some (.inr (.inr 2)), some (.inl p1), some (.inl 24)]) (S' := []) (σ' := (SH L0, D)) (fun _ _ => rfl) ?_
  refine loop_ind (P := fun s => EvF mtab d k_X11_write 3 [some (.inr (.inr 2)), some (.inl p1), some (.inl s.1)] [] (SH L0, s.2) (none, (SH L0, t0))) (X := fun r => ∀ (o4 : Option (Sum Int Nat)), EvF mtab d k_X11_write 46 [some (.inr (.inr 2)), some (.inl p1), dv o4] [] (SH L0, r) (none, (SH L0, t0))) hr hX ?_
  clear hr hX
  intro s t hb hK0
  obtain ⟨l2_1, D2⟩ := s
  show EvF mtab d k_X11_write 3 [some (.inr (.inr 2)), some (.inl p1), some (.inl l2_1)] [] (SH L0, D2) (none, (SH L0, t0))
  unfold b_X11_write_3 at hb
  rcases ite_or hb with ⟨hc, hb⟩ | ⟨hc, hb⟩
  · refine ev_ift hc 2 (pc' := 46) (L' := [some (.inr (.inr 2)), some (.inl p1), some (.inl l2_1)]) (S' := []) (σ' := (SH L0, D2)) (fun _ _ => rfl) ?_
    cases hb
    exact hK0 (some (.inl l2_1))
  · refine ev_iff hc 2 (pc' := 7) (L' := [some (.inr (.inr 2)), some (.inl p1), some (.inl l2_1)]) (S' := []) (σ' := (SH L0, D2)) (fun _ _ => rfl) ?_
    rcases ite_or hb with ⟨hc, hb⟩ | ⟨hc, hb⟩
    · refine ev_ift hc 4 (pc' := 17) (L' := [some (.inr (.inr 2)), some (.inl p1), some (.inl l2_1)]) (S' := []) (σ' := (SH L0, D2)) (fun _ _ => rfl) ?_
      obtain ⟨D3, hx, hb⟩ := bnd hb
      refine ev_bind hx 9 (pc' := 30) (L' := fun D3 => [some (.inr (.inr 2)), some (.inl p1), some (.inl l2_1)]) (S' := fun D3 => []) (σ' := fun D3 => (SH L0, D3)) (fun _ _ => rfl) ?_
      cases hb
      exact ev_go 8 (pc' := 3) (L' := [some (.inr (.inr 2)), some (.inl p1), some (.inl (w32 (l2_1 + (-8))))]) (S' := []) (σ' := (SH L0, dput D3 2 1 (w32 ((D3 2 1) + 1)))) (fun _ _ => rfl) hK0
    · refine ev_iff hc 4 (pc' := 46) (L' := [some (.inr (.inr 2)), some (.inl p1), some (.inl l2_1)]) (S' := []) (σ' := (SH L0, D2)) (fun _ _ => rfl) ?_
      cases hb
      exact hK0 (some (.inl l2_1))
set_option maxRecDepth 100000 in
set_option maxHeartbeats 4000000 in
theorem e_X11_feed (L0 d : Nat) (hd : 2 ≤ d) {p1 p2 p3 p4 p5 : Int} {D : DT} {t0 : (Int × DT)} (h : m_X11_feed p1 p2 p3 p4 p5 D = some t0) : Ret mtab d 128 [.inr (.inr 2), .inl p1, .inl p2, .inl p3, .inl p4, .inl p5] (SH L0, D) (some (.inl t0.1), (SH L0, t0.2)) := by
  obtain ⟨d, rfl⟩ : ∃ e, d = e + 1 := ⟨d - 1, by omega⟩
  refine Ret.of (code := k_X11_feed) (ml := 6) rfl ?_
  show EvF mtab d k_X11_feed 0 [some (.inr (.inr 2)), some (.inl p1), some (.inl p2), some (.inl p3), some (.inl p4), some (.inl p5)] [] (SH L0, D) (some (.inl t0.1), (SH L0, t0.2))
  unfold m_X11_feed at h
  rcases ite_or h with ⟨hc, h⟩ | ⟨hc, h⟩
  · refine ev_ift hc 6 (pc' := 13) (L' := [some (.inr (.inr 2)), some (.inl p1), some (.inl p2), some (.inl p3), some (.inl p4), some (.inl p5)]) (S' := []) (σ' := (SH L0, D)) (fun _ _ => rfl) ?_
    cases h
    exact ev_ret 2 (fun _ _ => rfl)
  · refine ev_iff hc 6 (pc' := 15) (L' := [some (.inr (.inr 2)), some (.inl p1), some (.inl p2), some (.inl p3), some (.inl p4), some (.inl p5)]) (S' := []) (σ' := (SH L0, D)) (fun _ _ => rfl) ?_
    obtain ⟨D1, hx, h⟩ := bnd h
    refine ev_call (e_X11_write L0 d (by omega) hx) 3 (pc' := 20) (L' := [some (.inr (.inr 2)), some (.inl p1), some (.inl p2), some (.inl p3), some (.inl p4), some (.inl p5)]) (S' := []) (fun _ _ => rfl) ?_
    obtain ⟨D2, hx, h⟩ := bnd h
    refine ev_call (e_X11_write L0 d (by omega) hx) 3 (pc' := 25) (L' := [some (.inr (.inr 2)), some (.inl p1), some (.inl p2), some (.inl p3), some (.inl p4), some (.inl p5)]) (S' := []) (fun _ _ => rfl) ?_
    obtain ⟨D3, hx, h⟩ := bnd h
    refine ev_call (e_X11_write L0 d (by omega) hx) 3 (pc' := 30) (L' := [some (.inr (.inr 2)), some (.inl p1), some (.inl p2), some (.inl p3), some (.inl p4), some (.inl p5)]) (S' := []) (fun _ _ => rfl) ?_
    obtain ⟨D4, hx, h⟩ := bnd h
    refine ev_call (e_X11_write L0 d (by omega) hx) 3 (pc' := 36) (L' := [some (.inr (.inr 2)), some (.inl p1), some (.inl p2), some (.inl p3), some (.inl p4), some (.inl p5)]) (S' := []) (fun _ _ => rfl) ?_
    obtain ⟨D5, hx, h⟩ := bnd h
    refine ev_call (e_X11_write L0 d (by omega) hx) 3 (pc' := 42) (L' := [some (.inr (.inr 2)), some (.inl p1), some (.inl p2), some (.inl p3), some (.inl p4), some (.inl p5)]) (S' := []) (fun _ _ => rfl) ?_
    cases h
    exact ev_ret 3 (fun _ _ => rfl)
set_option maxRecDepth 100000 in
set_option maxHeartbeats 4000000 in
theorem e_X11_refuse (L0 d : Nat) (hd : 1 ≤ d) {p1 : Int} {D : DT} {t0 : (Int × DT)} (h : m_X11_refuse p1 D = some t0) : Ret mtab d 151 [.inr (.inr 2), .inl p1] (SH L0, D) (some (.inl t0.1), (SH L0, t0.2)) := by
  obtain ⟨d, rfl⟩ : ∃ e, d = e + 1 := ⟨d - 1, by omega⟩
  refine Ret.of (code := k_X11_refuse) (ml := 2) rfl ?_
  show EvF mtab d k_X11_refuse 0 [some (.inr (.inr 2)), some (.inl p1)] [] (SH L0, D) (some (.inl t0.1), (SH L0, t0.2))
  unfold m_X11_refuse at h
  cases h
  exact ev_ret 5 (fun _ _ => rfl)
set_option maxRecDepth 100000 in
set_option maxHeartbeats 4000000 in
theorem e_X11_answer (L0 d : Nat) (hd : 1 ≤ d) {p1 : Int} {D : DT} {t0 : (Int × DT)} (h : m_X11_answer p1 D = some t0) : Ret mtab d 152 [.inr (.inr 2), .inl p1] (SH L0, D) (some (.inl t0.1), (SH L0, t0.2)) := by
  obtain ⟨d, rfl⟩ : ∃ e, d = e + 1 := ⟨d - 1, by omega⟩
  refine Ret.of (code := k_X11_answer) (ml := 2) rfl ?_
  show EvF mtab d k_X11_answer 0 [some (.inr (.inr 2)), some (.inl p1)] [] (SH L0, D) (some (.inl t0.1), (SH L0, t0.2))
  unfold m_X11_answer at h
  cases h
  exact ev_ret 5 (fun _ _ => rfl)
set_option maxRecDepth 100000 in
set_option maxHeartbeats 4000000 in
theorem e_X11_workOut (L0 d : Nat) (hd : 6 ≤ d) {D : DT} {t0 : DT} (h : m_X11_workOut  D = some t0) : Ret mtab d 159 [.inr (.inr 2)] (SH L0, D) (none, (SH L0, t0)) := by
  obtain ⟨d, rfl⟩ : ∃ e, d = e + 1 := ⟨d - 1, by omega⟩
  refine Ret.of (code := k_X11_workOut) (ml := 2) rfl ?_
  show EvF mtab d k_X11_workOut 0 [some (.inr (.inr 2)), none] [] (SH L0, D) (none, (SH L0, t0))
  unfold m_X11_workOut at h
  obtain ⟨r, hr, h⟩ := bnd h
  have hX : (fun (r : DT) => ∀ (o5 : Option (Sum Int Nat)), EvF mtab d k_X11_workOut 35 [some (.inr (.inr 2)), dv o5] [] (SH L0, r) (none, (SH L0, t0))) r := by
    obtain ⟨D6, hre⟩ : ∃ q, q = r := ⟨r, rfl⟩
    subst hre
    intro o5
    show EvF mtab d k_X11_workOut 35 [some (.inr (.inr 2)), dv o5] [] (SH L0, D6) (none, (SH L0, t0))
    obtain ⟨D7, hx, h⟩ := bnd h
    refine ev_call (e_X1_gather L0 d (by omega) hx) 3 (pc' := 42) (L' := [some (.inr (.inr 2)), dv o5]) (S' := []) (fun _ _ => rfl) ?_
    obtain ⟨D8, hx, h⟩ := bnd h
    refine ev_call (e_X4_byLine_162_7 L0 d (by omega) hx) 8 (pc' := 58) (L' := [some (.inr (.inr 2)), dv o5]) (S' := []) (fun _ _ => rfl) ?_
    obtain ⟨D9, hx, h⟩ := bnd h
    refine ev_call (e_X4_byFunctions_167_1_131 L0 d (by omega) hx) 8 (pc' := 74) (L' := [some (.inr (.inr 2)), dv o5]) (S' := []) (fun _ _ => rfl) ?_
    obtain ⟨D10, hx, h⟩ := bnd h
    refine ev_call (e_X4_byFunctions_172_142_131 L0 d (by omega) hx) 10 (pc' := 94) (L' := [some (.inr (.inr 2)), dv o5]) (S' := []) (fun _ _ => rfl) ?_
    obtain ⟨D11, hx, h⟩ := bnd h
    refine ev_call (e_X4_byFunctions_177_143_131 L0 d (by omega) hx) 10 (pc' := 114) (L' := [some (.inr (.inr 2)), dv o5]) (S' := []) (fun _ _ => rfl) ?_
    obtain ⟨D12, hx, h⟩ := bnd h
    refine ev_call (e_X4_byLine_182_17 L0 d (by omega) hx) 8 (pc' := 130) (L' := [some (.inr (.inr 2)), dv o5]) (S' := []) (fun _ _ => rfl) ?_
    cases h
    exact ev_ret 1 (fun _ _ => rfl)
  clear h
  refine ev_go 2 (pc' := 2) (L' := [some (.inr (.inr 2)), some (.inl 0)]) (S' := []) (σ' := (SH L0, D)) (fun _ _ => rfl) ?_
  refine loop_ind (P := fun s => EvF mtab d k_X11_workOut 2 [some (.inr (.inr 2)), some (.inl s.1)] [] (SH L0, s.2) (none, (SH L0, t0))) (X := fun r => ∀ (o5 : Option (Sum Int Nat)), EvF mtab d k_X11_workOut 35 [some (.inr (.inr 2)), dv o5] [] (SH L0, r) (none, (SH L0, t0))) hr hX ?_
  clear hr hX
  intro s t hb hK0
  obtain ⟨l1_1, D2⟩ := s
  show EvF mtab d k_X11_workOut 2 [some (.inr (.inr 2)), some (.inl l1_1)] [] (SH L0, D2) (none, (SH L0, t0))
  unfold b_X11_workOut_2 at hb
  rcases ite_or hb with ⟨hc, hb⟩ | ⟨hc, hb⟩
  · refine ev_ift hc 5 (pc' := 13) (L' := [some (.inr (.inr 2)), some (.inl l1_1)]) (S' := []) (σ' := (SH L0, D2)) (fun _ _ => rfl) ?_
    obtain ⟨D3, hx, hb⟩ := bnd hb
    refine ev_call (e_X2_mend L0 d (by omega) hx) 4 (pc' := 21) (L' := [some (.inr (.inr 2)), some (.inl l1_1)]) (S' := []) (fun _ _ => rfl) ?_
    obtain ⟨D4, hx, hb⟩ := bnd hb
    refine ev_call (e_X0_join L0 d (by omega) hx) 4 (pc' := 29) (L' := [some (.inr (.inr 2)), some (.inl l1_1)]) (S' := []) (fun _ _ => rfl) ?_
    cases hb
    exact ev_go 2 (pc' := 2) (L' := [some (.inr (.inr 2)), some (.inl (w32 (l1_1 + 1)))]) (S' := []) (σ' := (SH L0, D4)) (fun _ _ => rfl) hK0
  · refine ev_iff hc 5 (pc' := 35) (L' := [some (.inr (.inr 2)), some (.inl l1_1)]) (S' := []) (σ' := (SH L0, D2)) (fun _ _ => rfl) ?_
    cases hb
    exact hK0 (some (.inl l1_1))
set_option maxRecDepth 100000 in
set_option maxHeartbeats 4000000 in
theorem e_X11_load (L0 d : Nat) (hd : 8 ≤ d) {p1 : Int} {D : DT} {t0 : (Int × DT)} (h : m_X11_load p1 D = some t0) : Ret mtab d 129 [.inr (.inr 2), .inl p1] (SH L0, D) (some (.inl t0.1), (SH L0, t0.2)) := by
  obtain ⟨d, rfl⟩ : ∃ e, d = e + 1 := ⟨d - 1, by omega⟩
  refine Ret.of (code := k_X11_load) (ml := 2) rfl ?_
  show EvF mtab d k_X11_load 0 [some (.inr (.inr 2)), some (.inl p1)] [] (SH L0, D) (some (.inl t0.1), (SH L0, t0.2))
  unfold m_X11_load at h
  rcases ite_or h with ⟨hc, h⟩ | ⟨hc, h⟩
  · refine ev_ift hc 2 (pc' := 12) (L' := [some (.inr (.inr 2)), some (.inl p1)]) (S' := []) (σ' := (SH L0, D)) (fun _ _ => rfl) ?_
    obtain ⟨⟨x1, D2⟩, hx, h⟩ := bnd h
    refine ev_call (e_X11_refuse L0 d (by omega) hx) 3 (pc' := 17) (L' := [some (.inr (.inr 2)), some (.inl p1)]) (S' := []) (fun _ _ => rfl) ?_
    cases h
    exact ev_ret 1 (fun _ _ => rfl)
  · refine ev_iff hc 2 (pc' := 4) (L' := [some (.inr (.inr 2)), some (.inl p1)]) (S' := []) (σ' := (SH L0, D)) (fun _ _ => rfl) ?_
    rcases ite_or h with ⟨hc, h⟩ | ⟨hc, h⟩
    · refine ev_ift hc 4 (pc' := 12) (L' := [some (.inr (.inr 2)), some (.inl p1)]) (S' := []) (σ' := (SH L0, D)) (fun _ _ => rfl) ?_
      obtain ⟨⟨x3, D4⟩, hx, h⟩ := bnd h
      refine ev_call (e_X11_refuse L0 d (by omega) hx) 3 (pc' := 17) (L' := [some (.inr (.inr 2)), some (.inl p1)]) (S' := []) (fun _ _ => rfl) ?_
      cases h
      exact ev_ret 1 (fun _ _ => rfl)
    · refine ev_iff hc 4 (pc' := 18) (L' := [some (.inr (.inr 2)), some (.inl p1)]) (S' := []) (σ' := (SH L0, D)) (fun _ _ => rfl) ?_
      obtain ⟨D5, hx, h⟩ := bnd h
      refine ev_call (e_X8_read L0 d (by omega) hx) 4 (pc' := 26) (L' := [some (.inr (.inr 2)), some (.inl p1)]) (S' := []) (fun _ _ => rfl) ?_
      obtain ⟨t6, hv, h⟩ := bnd h
      have hJ : EvF mtab d k_X11_load 64 [some (.inr (.inr 2)), some (.inl p1)] [.inl t6, .inr (.inr 2)] (SH L0, dput (dput D5 2 1 0) 2 3 ((dput D5 2 1 0) 18 1)) (some (.inl t0.1), (SH L0, t0.2)) := by
        rcases ite_or h with ⟨hc, h⟩ | ⟨hc, h⟩
        · refine ev_ift hc 5 (pc' := 84) (L' := [some (.inr (.inr 2)), some (.inl p1)]) (S' := []) (σ' := (SH L0, dput (dput (dput D5 2 1 0) 2 3 ((dput D5 2 1 0) 18 1)) 2 4 t6)) (fun _ _ => rfl) ?_
          obtain ⟨D7, hx, h⟩ := bnd h
          refine ev_call (e_X3_keep L0 d (by omega) hx) 5 (pc' := 95) (L' := [some (.inr (.inr 2)), some (.inl p1)]) (S' := []) (fun _ _ => rfl) ?_
          obtain ⟨D8, hx, h⟩ := bnd h
          refine ev_call (e_X7_copy_4_19 L0 d (by omega) hx) 6 (pc' := 109) (L' := [some (.inr (.inr 2)), some (.inl p1)]) (S' := []) (fun _ _ => rfl) ?_
          obtain ⟨D9, hx, h⟩ := bnd h
          refine ev_call (e_X11_workOut L0 d (by omega) hx) 2 (pc' := 113) (L' := [some (.inr (.inr 2)), some (.inl p1)]) (S' := []) (fun _ _ => rfl) ?_
          obtain ⟨⟨x10, D11⟩, hx, h⟩ := bnd h
          refine ev_call (e_X11_answer L0 d (by omega) hx) 5 (pc' := 124) (L' := [some (.inr (.inr 2)), some (.inl p1)]) (S' := []) (fun _ _ => rfl) ?_
          cases h
          exact ev_ret 1 (fun _ _ => rfl)
        · refine ev_iff hc 5 (pc' := 77) (L' := [some (.inr (.inr 2)), some (.inl p1)]) (S' := []) (σ' := (SH L0, dput (dput (dput D5 2 1 0) 2 3 ((dput D5 2 1 0) 18 1)) 2 4 t6)) (fun _ _ => rfl) ?_
          obtain ⟨⟨x12, D13⟩, hx, h⟩ := bnd h
          refine ev_call (e_X11_refuse L0 d (by omega) hx) 3 (pc' := 83) (L' := [some (.inr (.inr 2)), some (.inl p1)]) (S' := []) (fun _ _ => rfl) ?_
          cases h
          exact ev_ret 1 (fun _ _ => rfl)
      clear h
      rcases ite_or hv with ⟨hc, hv⟩ | ⟨hc, hv⟩
      · refine ev_ift hc 13 (pc' := 53) (L' := [some (.inr (.inr 2)), some (.inl p1)]) (S' := [.inr (.inr 2)]) (σ' := (SH L0, dput (dput D5 2 1 0) 2 3 ((dput D5 2 1 0) 18 1))) (fun _ _ => rfl) ?_
        have he0 := Option.some.inj hv
        subst he0
        exact ev_go 2 (pc' := 64) (L' := [some (.inr (.inr 2)), some (.inl p1)]) (S' := [.inl (-1), .inr (.inr 2)]) (σ' := (SH L0, dput (dput D5 2 1 0) 2 3 ((dput D5 2 1 0) 18 1))) (fun _ _ => rfl) hJ
      · refine ev_iff hc 13 (pc' := 57) (L' := [some (.inr (.inr 2)), some (.inl p1)]) (S' := [.inr (.inr 2)]) (σ' := (SH L0, dput (dput D5 2 1 0) 2 3 ((dput D5 2 1 0) 18 1))) (fun _ _ => rfl) ?_
        have he0 := Option.some.inj hv
        subst he0
        exact ev_go 3 (pc' := 64) (L' := [some (.inr (.inr 2)), some (.inl p1)]) (S' := [.inl ((dput (dput D5 2 1 0) 2 3 ((dput D5 2 1 0) 18 1)) 18 2), .inr (.inr 2)]) (σ' := (SH L0, dput (dput D5 2 1 0) 2 3 ((dput D5 2 1 0) 18 1))) (fun _ _ => rfl) hJ
set_option maxRecDepth 100000 in
set_option maxHeartbeats 4000000 in
theorem e_X11_fault (L0 d : Nat) (hd : 1 ≤ d) {p1 : Int} {D : DT} {t0 : Int} (h : m_X11_fault p1 D = some t0) : Ret mtab d 130 [.inr (.inr 2), .inl p1] (SH L0, D) (some (.inl t0), (SH L0, D)) := by
  obtain ⟨d, rfl⟩ : ∃ e, d = e + 1 := ⟨d - 1, by omega⟩
  refine Ret.of (code := k_X11_fault) (ml := 2) rfl ?_
  show EvF mtab d k_X11_fault 0 [some (.inr (.inr 2)), some (.inl p1)] [] (SH L0, D) (some (.inl t0), (SH L0, D))
  unfold m_X11_fault at h
  rcases ite_or h with ⟨hc, h⟩ | ⟨hc, h⟩
  · refine ev_ift hc 2 (pc' := 4) (L' := [some (.inr (.inr 2)), some (.inl p1)]) (S' := []) (σ' := (SH L0, D)) (fun _ _ => rfl) ?_
    cases h
    exact ev_ret 3 (fun _ _ => rfl)
  · refine ev_iff hc 2 (pc' := 9) (L' := [some (.inr (.inr 2)), some (.inl p1)]) (S' := []) (σ' := (SH L0, D)) (fun _ _ => rfl) ?_
    rcases ite_or h with ⟨hc, h⟩ | ⟨hc, h⟩
    · refine ev_ift hc 3 (pc' := 14) (L' := [some (.inr (.inr 2)), some (.inl p1)]) (S' := []) (σ' := (SH L0, D)) (fun _ _ => rfl) ?_
      cases h
      exact ev_ret 4 (fun _ _ => rfl)
    · refine ev_iff hc 3 (pc' := 21) (L' := [some (.inr (.inr 2)), some (.inl p1)]) (S' := []) (σ' := (SH L0, D)) (fun _ _ => rfl) ?_
      cases h
      exact ev_ret 2 (fun _ _ => rfl)
set_option maxRecDepth 100000 in
set_option maxHeartbeats 4000000 in
theorem e_X11_many (L0 d : Nat) (hd : 2 ≤ d) {p1 : Int} {D : DT} {t0 : (Int × DT)} (h : m_X11_many p1 D = some t0) : Ret mtab d 131 [.inr (.inr 2), .inl p1] (SH L0, D) (some (.inl t0.1), (SH L0, t0.2)) := by
  obtain ⟨d, rfl⟩ : ∃ e, d = e + 1 := ⟨d - 1, by omega⟩
  refine Ret.of (code := k_X11_many) (ml := 2) rfl ?_
  show EvF mtab d k_X11_many 0 [some (.inr (.inr 2)), some (.inl p1)] [] (SH L0, D) (some (.inl t0.1), (SH L0, t0.2))
  unfold m_X11_many at h
  rcases ite_or h with ⟨hc0, h⟩ | ⟨hc0, h⟩
  · refine ev_tsw 2 (tgt := 60) (L' := [some (.inr (.inr 2)), some (.inl p1)]) (S' := []) (σ' := (SH L0, D)) (fun _ _ => rfl) (fun g => by simp [tsw, hc0]) ?_
    obtain ⟨⟨x1, D2⟩, hx, h⟩ := bnd h
    refine ev_call (e_X11_answer L0 d (by omega) hx) 5 (pc' := 71) (L' := [some (.inr (.inr 2)), some (.inl p1)]) (S' := []) (fun _ _ => rfl) ?_
    cases h
    exact ev_ret 1 (fun _ _ => rfl)
  rcases ite_or h with ⟨hc1, h⟩ | ⟨hc1, h⟩
  · refine ev_tsw 2 (tgt := 72) (L' := [some (.inr (.inr 2)), some (.inl p1)]) (S' := []) (σ' := (SH L0, D)) (fun _ _ => rfl) (fun g => by simp [tsw, hc0, hc1]) ?_
    obtain ⟨⟨x3, D4⟩, hx, h⟩ := bnd h
    refine ev_call (e_X11_answer L0 d (by omega) hx) 5 (pc' := 83) (L' := [some (.inr (.inr 2)), some (.inl p1)]) (S' := []) (fun _ _ => rfl) ?_
    cases h
    exact ev_ret 1 (fun _ _ => rfl)
  rcases ite_or h with ⟨hc2, h⟩ | ⟨hc2, h⟩
  · refine ev_tsw 2 (tgt := 84) (L' := [some (.inr (.inr 2)), some (.inl p1)]) (S' := []) (σ' := (SH L0, D)) (fun _ _ => rfl) (fun g => by simp [tsw, hc0, hc1, hc2]) ?_
    obtain ⟨⟨x5, D6⟩, hx, h⟩ := bnd h
    refine ev_call (e_X11_answer L0 d (by omega) hx) 5 (pc' := 95) (L' := [some (.inr (.inr 2)), some (.inl p1)]) (S' := []) (fun _ _ => rfl) ?_
    cases h
    exact ev_ret 1 (fun _ _ => rfl)
  rcases ite_or h with ⟨hc3, h⟩ | ⟨hc3, h⟩
  · refine ev_tsw 2 (tgt := 96) (L' := [some (.inr (.inr 2)), some (.inl p1)]) (S' := []) (σ' := (SH L0, D)) (fun _ _ => rfl) (fun g => by simp [tsw, hc0, hc1, hc2, hc3]) ?_
    obtain ⟨⟨x7, D8⟩, hx, h⟩ := bnd h
    refine ev_call (e_X11_answer L0 d (by omega) hx) 5 (pc' := 107) (L' := [some (.inr (.inr 2)), some (.inl p1)]) (S' := []) (fun _ _ => rfl) ?_
    cases h
    exact ev_ret 1 (fun _ _ => rfl)
  rcases ite_or h with ⟨hc4, h⟩ | ⟨hc4, h⟩
  · refine ev_tsw 2 (tgt := 108) (L' := [some (.inr (.inr 2)), some (.inl p1)]) (S' := []) (σ' := (SH L0, D)) (fun _ _ => rfl) (fun g => by simp [tsw, hc0, hc1, hc2, hc3, hc4]) ?_
    obtain ⟨⟨x9, D10⟩, hx, h⟩ := bnd h
    refine ev_call (e_X11_answer L0 d (by omega) hx) 5 (pc' := 119) (L' := [some (.inr (.inr 2)), some (.inl p1)]) (S' := []) (fun _ _ => rfl) ?_
    cases h
    exact ev_ret 1 (fun _ _ => rfl)
  rcases ite_or h with ⟨hc5, h⟩ | ⟨hc5, h⟩
  · refine ev_tsw 2 (tgt := 120) (L' := [some (.inr (.inr 2)), some (.inl p1)]) (S' := []) (σ' := (SH L0, D)) (fun _ _ => rfl) (fun g => by simp [tsw, hc0, hc1, hc2, hc3, hc4, hc5]) ?_
    obtain ⟨⟨x11, D12⟩, hx, h⟩ := bnd h
    refine ev_call (e_X11_answer L0 d (by omega) hx) 5 (pc' := 131) (L' := [some (.inr (.inr 2)), some (.inl p1)]) (S' := []) (fun _ _ => rfl) ?_
    cases h
    exact ev_ret 1 (fun _ _ => rfl)
  rcases ite_or h with ⟨hc6, h⟩ | ⟨hc6, h⟩
  · refine ev_tsw 2 (tgt := 132) (L' := [some (.inr (.inr 2)), some (.inl p1)]) (S' := []) (σ' := (SH L0, D)) (fun _ _ => rfl) (fun g => by simp [tsw, hc0, hc1, hc2, hc3, hc4, hc5, hc6]) ?_
    obtain ⟨⟨x13, D14⟩, hx, h⟩ := bnd h
    refine ev_call (e_X11_answer L0 d (by omega) hx) 5 (pc' := 143) (L' := [some (.inr (.inr 2)), some (.inl p1)]) (S' := []) (fun _ _ => rfl) ?_
    cases h
    exact ev_ret 1 (fun _ _ => rfl)
  rcases ite_or h with ⟨hc7, h⟩ | ⟨hc7, h⟩
  · refine ev_tsw 2 (tgt := 144) (L' := [some (.inr (.inr 2)), some (.inl p1)]) (S' := []) (σ' := (SH L0, D)) (fun _ _ => rfl) (fun g => by simp [tsw, hc0, hc1, hc2, hc3, hc4, hc5, hc6, hc7]) ?_
    obtain ⟨x15, hx, h⟩ := bnd h
    refine ev_call (e_X2_broken L0 d (by omega) hx) 4 (pc' := 152) (L' := [some (.inr (.inr 2)), some (.inl p1)]) (S' := [.inr (.inr 2)]) (fun _ _ => rfl) ?_
    obtain ⟨⟨x16, D17⟩, hx, h⟩ := bnd h
    refine ev_call (e_X11_answer L0 d (by omega) hx) 1 (pc' := 155) (L' := [some (.inr (.inr 2)), some (.inl p1)]) (S' := []) (fun _ _ => rfl) ?_
    cases h
    exact ev_ret 1 (fun _ _ => rfl)
  rcases ite_or h with ⟨hc8, h⟩ | ⟨hc8, h⟩
  · refine ev_tsw 2 (tgt := 156) (L' := [some (.inr (.inr 2)), some (.inl p1)]) (S' := []) (σ' := (SH L0, D)) (fun _ _ => rfl) (fun g => by simp [tsw, hc0, hc1, hc2, hc3, hc4, hc5, hc6, hc7, hc8]) ?_
    obtain ⟨x18, hx, h⟩ := bnd h
    refine ev_call (e_X2_mending L0 d (by omega) hx) 4 (pc' := 164) (L' := [some (.inr (.inr 2)), some (.inl p1)]) (S' := [.inr (.inr 2)]) (fun _ _ => rfl) ?_
    obtain ⟨⟨x19, D20⟩, hx, h⟩ := bnd h
    refine ev_call (e_X11_answer L0 d (by omega) hx) 1 (pc' := 167) (L' := [some (.inr (.inr 2)), some (.inl p1)]) (S' := []) (fun _ _ => rfl) ?_
    cases h
    exact ev_ret 1 (fun _ _ => rfl)
  rcases ite_or h with ⟨hc9, h⟩ | ⟨hc9, h⟩
  · refine ev_tsw 2 (tgt := 168) (L' := [some (.inr (.inr 2)), some (.inl p1)]) (S' := []) (σ' := (SH L0, D)) (fun _ _ => rfl) (fun g => by simp [tsw, hc0, hc1, hc2, hc3, hc4, hc5, hc6, hc7, hc8, hc9]) ?_
    obtain ⟨⟨x21, D22⟩, hx, h⟩ := bnd h
    refine ev_call (e_X11_answer L0 d (by omega) hx) 5 (pc' := 179) (L' := [some (.inr (.inr 2)), some (.inl p1)]) (S' := []) (fun _ _ => rfl) ?_
    cases h
    exact ev_ret 1 (fun _ _ => rfl)
  rcases ite_or h with ⟨hc10, h⟩ | ⟨hc10, h⟩
  · refine ev_tsw 2 (tgt := 180) (L' := [some (.inr (.inr 2)), some (.inl p1)]) (S' := []) (σ' := (SH L0, D)) (fun _ _ => rfl) (fun g => by simp [tsw, hc0, hc1, hc2, hc3, hc4, hc5, hc6, hc7, hc8, hc9, hc10]) ?_
    obtain ⟨⟨x23, D24⟩, hx, h⟩ := bnd h
    refine ev_call (e_X11_answer L0 d (by omega) hx) 5 (pc' := 191) (L' := [some (.inr (.inr 2)), some (.inl p1)]) (S' := []) (fun _ _ => rfl) ?_
    cases h
    exact ev_ret 1 (fun _ _ => rfl)
  refine ev_tsw 2 (tgt := 192) (L' := [some (.inr (.inr 2)), some (.inl p1)]) (S' := []) (σ' := (SH L0, D)) (fun _ _ => rfl) (fun g => by simp [tsw, hc0, hc1, hc2, hc3, hc4, hc5, hc6, hc7, hc8, hc9, hc10]) ?_
  obtain ⟨⟨x25, D26⟩, hx, h⟩ := bnd h
  refine ev_call (e_X11_refuse L0 d (by omega) hx) 3 (pc' := 197) (L' := [some (.inr (.inr 2)), some (.inl p1)]) (S' := []) (fun _ _ => rfl) ?_
  cases h
  exact ev_ret 1 (fun _ _ => rfl)
set_option maxRecDepth 100000 in
set_option maxHeartbeats 4000000 in
theorem e_X11_isFunction (L0 d : Nat) (hd : 1 ≤ d) {p1 : Int} {D : DT} {t0 : Int} (h : m_X11_isFunction p1 D = some t0) : Ret mtab d 154 [.inr (.inr 2), .inl p1] (SH L0, D) (some (.inl t0), (SH L0, D)) := by
  obtain ⟨d, rfl⟩ : ∃ e, d = e + 1 := ⟨d - 1, by omega⟩
  refine Ret.of (code := k_X11_isFunction) (ml := 2) rfl ?_
  show EvF mtab d k_X11_isFunction 0 [some (.inr (.inr 2)), some (.inl p1)] [] (SH L0, D) (some (.inl t0), (SH L0, D))
  unfold m_X11_isFunction at h
  rcases ite_or h with ⟨hc, h⟩ | ⟨hc, h⟩
  · refine ev_ift hc 2 (pc' := 19) (L' := [some (.inr (.inr 2)), some (.inl p1)]) (S' := []) (σ' := (SH L0, D)) (fun _ _ => rfl) ?_
    cases h
    exact ev_ret 2 (fun _ _ => rfl)
  · refine ev_iff hc 2 (pc' := 4) (L' := [some (.inr (.inr 2)), some (.inl p1)]) (S' := []) (σ' := (SH L0, D)) (fun _ _ => rfl) ?_
    rcases ite_or h with ⟨hc, h⟩ | ⟨hc, h⟩
    · refine ev_ift hc 5 (pc' := 15) (L' := [some (.inr (.inr 2)), some (.inl p1)]) (S' := []) (σ' := (SH L0, D)) (fun _ _ => rfl) ?_
      cases h
      exact ev_ret 3 (fun _ _ => rfl)
    · refine ev_iff hc 5 (pc' := 19) (L' := [some (.inr (.inr 2)), some (.inl p1)]) (S' := []) (σ' := (SH L0, D)) (fun _ _ => rfl) ?_
      cases h
      exact ev_ret 2 (fun _ _ => rfl)
set_option maxRecDepth 100000 in
set_option maxHeartbeats 4000000 in
theorem e_X11_function (L0 d : Nat) (hd : 3 ≤ d) {p1 p2 : Int} {D : DT} {t0 : (Int × DT)} (h : m_X11_function p1 p2 D = some t0) : Ret mtab d 132 [.inr (.inr 2), .inl p1, .inl p2] (SH L0, D) (some (.inl t0.1), (SH L0, t0.2)) := by
  obtain ⟨d, rfl⟩ : ∃ e, d = e + 1 := ⟨d - 1, by omega⟩
  refine Ret.of (code := k_X11_function) (ml := 3) rfl ?_
  show EvF mtab d k_X11_function 0 [some (.inr (.inr 2)), some (.inl p1), some (.inl p2)] [] (SH L0, D) (some (.inl t0.1), (SH L0, t0.2))
  unfold m_X11_function at h
  rcases ite_or h with ⟨hc, h⟩ | ⟨hc, h⟩
  · refine ev_ift hc 2 (pc' := 10) (L' := [some (.inr (.inr 2)), some (.inl p1), some (.inl p2)]) (S' := []) (σ' := (SH L0, D)) (fun _ _ => rfl) ?_
    obtain ⟨⟨x1, D2⟩, hx, h⟩ := bnd h
    refine ev_call (e_X11_refuse L0 d (by omega) hx) 3 (pc' := 15) (L' := [some (.inr (.inr 2)), some (.inl p1), some (.inl p2)]) (S' := []) (fun _ _ => rfl) ?_
    cases h
    exact ev_ret 1 (fun _ _ => rfl)
  · refine ev_iff hc 2 (pc' := 4) (L' := [some (.inr (.inr 2)), some (.inl p1), some (.inl p2)]) (S' := []) (σ' := (SH L0, D)) (fun _ _ => rfl) ?_
    rcases ite_or h with ⟨hc, h⟩ | ⟨hc, h⟩
    · refine ev_ift hc 3 (pc' := 10) (L' := [some (.inr (.inr 2)), some (.inl p1), some (.inl p2)]) (S' := []) (σ' := (SH L0, D)) (fun _ _ => rfl) ?_
      obtain ⟨⟨x3, D4⟩, hx, h⟩ := bnd h
      refine ev_call (e_X11_refuse L0 d (by omega) hx) 3 (pc' := 15) (L' := [some (.inr (.inr 2)), some (.inl p1), some (.inl p2)]) (S' := []) (fun _ _ => rfl) ?_
      cases h
      exact ev_ret 1 (fun _ _ => rfl)
    · refine ev_iff hc 3 (pc' := 16) (L' := [some (.inr (.inr 2)), some (.inl p1), some (.inl p2)]) (S' := []) (σ' := (SH L0, D)) (fun _ _ => rfl) ?_
      obtain ⟨x5, hx, h⟩ := bnd h
      refine ev_call (e_X11_isFunction L0 d (by omega) hx) 3 (pc' := 21) (L' := [some (.inr (.inr 2)), some (.inl p1), some (.inl p2)]) (S' := []) (fun _ _ => rfl) ?_
      rcases ite_or h with ⟨hc, h⟩ | ⟨hc, h⟩
      · refine ev_ift hc 1 (pc' := 24) (L' := [some (.inr (.inr 2)), some (.inl p1), some (.inl p2)]) (S' := []) (σ' := (SH L0, D)) (fun _ _ => rfl) ?_
        obtain ⟨⟨x6, D7⟩, hx, h⟩ := bnd h
        refine ev_call (e_X11_refuse L0 d (by omega) hx) 3 (pc' := 29) (L' := [some (.inr (.inr 2)), some (.inl p1), some (.inl p2)]) (S' := []) (fun _ _ => rfl) ?_
        cases h
        exact ev_ret 1 (fun _ _ => rfl)
      · refine ev_iff hc 1 (pc' := 30) (L' := [some (.inr (.inr 2)), some (.inl p1), some (.inl p2)]) (S' := []) (σ' := (SH L0, D)) (fun _ _ => rfl) ?_
        rcases ite_or h with ⟨hc0, h⟩ | ⟨hc0, h⟩
        · refine ev_tsw 2 (tgt := 72) (L' := [some (.inr (.inr 2)), some (.inl p1), some (.inl p2)]) (S' := []) (σ' := (SH L0, D)) (fun _ _ => rfl) (fun g => by simp [tsw, hc0]) ?_
          obtain ⟨x8, hx, h⟩ := bnd h
          refine ev_bind hx 6 (pc' := 82) (L' := fun x8 => [some (.inr (.inr 2)), some (.inl p1), some (.inl p2)]) (S' := fun x8 => [.inl x8, .inr (.inr 2)]) (σ' := fun x8 => (SH L0, D)) (fun _ _ => rfl) ?_
          obtain ⟨⟨x9, D10⟩, hx, h⟩ := bnd h
          refine ev_call (e_X11_answer L0 d (by omega) hx) 1 (pc' := 85) (L' := [some (.inr (.inr 2)), some (.inl p1), some (.inl p2)]) (S' := []) (fun _ _ => rfl) ?_
          cases h
          exact ev_ret 1 (fun _ _ => rfl)
        rcases ite_or h with ⟨hc1, h⟩ | ⟨hc1, h⟩
        · refine ev_tsw 2 (tgt := 86) (L' := [some (.inr (.inr 2)), some (.inl p1), some (.inl p2)]) (S' := []) (σ' := (SH L0, D)) (fun _ _ => rfl) (fun g => by simp [tsw, hc0, hc1]) ?_
          obtain ⟨x11, hx, h⟩ := bnd h
          refine ev_call (e_X7_entryOf_4 L0 d (by omega) hx) 5 (pc' := 95) (L' := [some (.inr (.inr 2)), some (.inl p1), some (.inl p2)]) (S' := [.inr (.inr 2)]) (fun _ _ => rfl) ?_
          obtain ⟨⟨x12, D13⟩, hx, h⟩ := bnd h
          refine ev_call (e_X11_answer L0 d (by omega) hx) 1 (pc' := 98) (L' := [some (.inr (.inr 2)), some (.inl p1), some (.inl p2)]) (S' := []) (fun _ _ => rfl) ?_
          cases h
          exact ev_ret 1 (fun _ _ => rfl)
        rcases ite_or h with ⟨hc2, h⟩ | ⟨hc2, h⟩
        · refine ev_tsw 2 (tgt := 99) (L' := [some (.inr (.inr 2)), some (.inl p1), some (.inl p2)]) (S' := []) (σ' := (SH L0, D)) (fun _ _ => rfl) (fun g => by simp [tsw, hc0, hc1, hc2]) ?_
          obtain ⟨x14, hx, h⟩ := bnd h
          refine ev_call (e_X7_bytesOf L0 d (by omega) hx) 5 (pc' := 108) (L' := [some (.inr (.inr 2)), some (.inl p1), some (.inl p2)]) (S' := [.inr (.inr 2)]) (fun _ _ => rfl) ?_
          obtain ⟨⟨x15, D16⟩, hx, h⟩ := bnd h
          refine ev_call (e_X11_answer L0 d (by omega) hx) 1 (pc' := 111) (L' := [some (.inr (.inr 2)), some (.inl p1), some (.inl p2)]) (S' := []) (fun _ _ => rfl) ?_
          cases h
          exact ev_ret 1 (fun _ _ => rfl)
        rcases ite_or h with ⟨hc3, h⟩ | ⟨hc3, h⟩
        · refine ev_tsw 2 (tgt := 112) (L' := [some (.inr (.inr 2)), some (.inl p1), some (.inl p2)]) (S' := []) (σ' := (SH L0, D)) (fun _ _ => rfl) (fun g => by simp [tsw, hc0, hc1, hc2, hc3]) ?_
          obtain ⟨x17, hx, h⟩ := bnd h
          refine ev_call (e_X7_entryOf_4 L0 d (by omega) hx) 8 (pc' := 128) (L' := [some (.inr (.inr 2)), some (.inl p1), some (.inl p2)]) (S' := [.inr (.inr 125), .inr (.inr 2)]) (fun _ _ => rfl) ?_
          obtain ⟨x18, hx, h⟩ := bnd h
          refine ev_bind hx 1 (pc' := 129) (L' := fun x18 => [some (.inr (.inr 2)), some (.inl p1), some (.inl p2)]) (S' := fun x18 => [.inl x18, .inr (.inr 2)]) (σ' := fun x18 => (SH L0, D)) (fun _ _ => rfl) ?_
          obtain ⟨⟨x19, D20⟩, hx, h⟩ := bnd h
          refine ev_call (e_X11_answer L0 d (by omega) hx) 1 (pc' := 132) (L' := [some (.inr (.inr 2)), some (.inl p1), some (.inl p2)]) (S' := []) (fun _ _ => rfl) ?_
          cases h
          exact ev_ret 1 (fun _ _ => rfl)
        rcases ite_or h with ⟨hc4, h⟩ | ⟨hc4, h⟩
        · refine ev_tsw 2 (tgt := 133) (L' := [some (.inr (.inr 2)), some (.inl p1), some (.inl p2)]) (S' := []) (σ' := (SH L0, D)) (fun _ _ => rfl) (fun g => by simp [tsw, hc0, hc1, hc2, hc3, hc4]) ?_
          obtain ⟨x21, hx, h⟩ := bnd h
          refine ev_bind hx 6 (pc' := 143) (L' := fun x21 => [some (.inr (.inr 2)), some (.inl p1), some (.inl p2)]) (S' := fun x21 => [.inl x21, .inr (.inr 2)]) (σ' := fun x21 => (SH L0, D)) (fun _ _ => rfl) ?_
          obtain ⟨⟨x22, D23⟩, hx, h⟩ := bnd h
          refine ev_call (e_X11_answer L0 d (by omega) hx) 1 (pc' := 146) (L' := [some (.inr (.inr 2)), some (.inl p1), some (.inl p2)]) (S' := []) (fun _ _ => rfl) ?_
          cases h
          exact ev_ret 1 (fun _ _ => rfl)
        rcases ite_or h with ⟨hc5, h⟩ | ⟨hc5, h⟩
        · refine ev_tsw 2 (tgt := 147) (L' := [some (.inr (.inr 2)), some (.inl p1), some (.inl p2)]) (S' := []) (σ' := (SH L0, D)) (fun _ _ => rfl) (fun g => by simp [tsw, hc0, hc1, hc2, hc3, hc4, hc5]) ?_
          obtain ⟨x24, hx, h⟩ := bnd h
          refine ev_bind hx 6 (pc' := 157) (L' := fun x24 => [some (.inr (.inr 2)), some (.inl p1), some (.inl p2)]) (S' := fun x24 => [.inl x24, .inr (.inr 2)]) (σ' := fun x24 => (SH L0, D)) (fun _ _ => rfl) ?_
          obtain ⟨⟨x25, D26⟩, hx, h⟩ := bnd h
          refine ev_call (e_X11_answer L0 d (by omega) hx) 1 (pc' := 160) (L' := [some (.inr (.inr 2)), some (.inl p1), some (.inl p2)]) (S' := []) (fun _ _ => rfl) ?_
          cases h
          exact ev_ret 1 (fun _ _ => rfl)
        rcases ite_or h with ⟨hc6, h⟩ | ⟨hc6, h⟩
        · refine ev_tsw 2 (tgt := 161) (L' := [some (.inr (.inr 2)), some (.inl p1), some (.inl p2)]) (S' := []) (σ' := (SH L0, D)) (fun _ _ => rfl) (fun g => by simp [tsw, hc0, hc1, hc2, hc3, hc4, hc5, hc6]) ?_
          obtain ⟨x27, hx, h⟩ := bnd h
          refine ev_bind hx 6 (pc' := 171) (L' := fun x27 => [some (.inr (.inr 2)), some (.inl p1), some (.inl p2)]) (S' := fun x27 => [.inl x27, .inr (.inr 2)]) (σ' := fun x27 => (SH L0, D)) (fun _ _ => rfl) ?_
          obtain ⟨⟨x28, D29⟩, hx, h⟩ := bnd h
          refine ev_call (e_X11_answer L0 d (by omega) hx) 1 (pc' := 174) (L' := [some (.inr (.inr 2)), some (.inl p1), some (.inl p2)]) (S' := []) (fun _ _ => rfl) ?_
          cases h
          exact ev_ret 1 (fun _ _ => rfl)
        refine ev_tsw 2 (tgt := 175) (L' := [some (.inr (.inr 2)), some (.inl p1), some (.inl p2)]) (S' := []) (σ' := (SH L0, D)) (fun _ _ => rfl) (fun g => by simp [tsw, hc0, hc1, hc2, hc3, hc4, hc5, hc6]) ?_
        obtain ⟨x30, hx, h⟩ := bnd h
        refine ev_call (e_X7_placeInTrace_4 L0 d (by omega) hx) 5 (pc' := 184) (L' := [some (.inr (.inr 2)), some (.inl p1), some (.inl p2)]) (S' := [.inr (.inr 2)]) (fun _ _ => rfl) ?_
        obtain ⟨⟨x31, D32⟩, hx, h⟩ := bnd h
        refine ev_call (e_X11_answer L0 d (by omega) hx) 1 (pc' := 187) (L' := [some (.inr (.inr 2)), some (.inl p1), some (.inl p2)]) (S' := []) (fun _ _ => rfl) ?_
        cases h
        exact ev_ret 1 (fun _ _ => rfl)
set_option maxRecDepth 100000 in
set_option maxHeartbeats 4000000 in
theorem e_X11_isBlock (L0 d : Nat) (hd : 1 ≤ d) {p1 : Int} {D : DT} {t0 : Int} (h : m_X11_isBlock p1 D = some t0) : Ret mtab d 155 [.inr (.inr 2), .inl p1] (SH L0, D) (some (.inl t0), (SH L0, D)) := by
  obtain ⟨d, rfl⟩ : ∃ e, d = e + 1 := ⟨d - 1, by omega⟩
  refine Ret.of (code := k_X11_isBlock) (ml := 2) rfl ?_
  show EvF mtab d k_X11_isBlock 0 [some (.inr (.inr 2)), some (.inl p1)] [] (SH L0, D) (some (.inl t0), (SH L0, D))
  unfold m_X11_isBlock at h
  rcases ite_or h with ⟨hc, h⟩ | ⟨hc, h⟩
  · refine ev_ift hc 2 (pc' := 19) (L' := [some (.inr (.inr 2)), some (.inl p1)]) (S' := []) (σ' := (SH L0, D)) (fun _ _ => rfl) ?_
    cases h
    exact ev_ret 2 (fun _ _ => rfl)
  · refine ev_iff hc 2 (pc' := 4) (L' := [some (.inr (.inr 2)), some (.inl p1)]) (S' := []) (σ' := (SH L0, D)) (fun _ _ => rfl) ?_
    rcases ite_or h with ⟨hc, h⟩ | ⟨hc, h⟩
    · refine ev_ift hc 5 (pc' := 15) (L' := [some (.inr (.inr 2)), some (.inl p1)]) (S' := []) (σ' := (SH L0, D)) (fun _ _ => rfl) ?_
      cases h
      exact ev_ret 3 (fun _ _ => rfl)
    · refine ev_iff hc 5 (pc' := 19) (L' := [some (.inr (.inr 2)), some (.inl p1)]) (S' := []) (σ' := (SH L0, D)) (fun _ _ => rfl) ?_
      cases h
      exact ev_ret 2 (fun _ _ => rfl)
set_option maxRecDepth 100000 in
set_option maxHeartbeats 4000000 in
theorem e_X11_block (L0 d : Nat) (hd : 2 ≤ d) {p1 p2 : Int} {D : DT} {t0 : (Int × DT)} (h : m_X11_block p1 p2 D = some t0) : Ret mtab d 133 [.inr (.inr 2), .inl p1, .inl p2] (SH L0, D) (some (.inl t0.1), (SH L0, t0.2)) := by
  obtain ⟨d, rfl⟩ : ∃ e, d = e + 1 := ⟨d - 1, by omega⟩
  refine Ret.of (code := k_X11_block) (ml := 3) rfl ?_
  show EvF mtab d k_X11_block 0 [some (.inr (.inr 2)), some (.inl p1), some (.inl p2)] [] (SH L0, D) (some (.inl t0.1), (SH L0, t0.2))
  unfold m_X11_block at h
  rcases ite_or h with ⟨hc, h⟩ | ⟨hc, h⟩
  · refine ev_ift hc 2 (pc' := 10) (L' := [some (.inr (.inr 2)), some (.inl p1), some (.inl p2)]) (S' := []) (σ' := (SH L0, D)) (fun _ _ => rfl) ?_
    obtain ⟨⟨x1, D2⟩, hx, h⟩ := bnd h
    refine ev_call (e_X11_refuse L0 d (by omega) hx) 3 (pc' := 15) (L' := [some (.inr (.inr 2)), some (.inl p1), some (.inl p2)]) (S' := []) (fun _ _ => rfl) ?_
    cases h
    exact ev_ret 1 (fun _ _ => rfl)
  · refine ev_iff hc 2 (pc' := 4) (L' := [some (.inr (.inr 2)), some (.inl p1), some (.inl p2)]) (S' := []) (σ' := (SH L0, D)) (fun _ _ => rfl) ?_
    rcases ite_or h with ⟨hc, h⟩ | ⟨hc, h⟩
    · refine ev_ift hc 3 (pc' := 10) (L' := [some (.inr (.inr 2)), some (.inl p1), some (.inl p2)]) (S' := []) (σ' := (SH L0, D)) (fun _ _ => rfl) ?_
      obtain ⟨⟨x3, D4⟩, hx, h⟩ := bnd h
      refine ev_call (e_X11_refuse L0 d (by omega) hx) 3 (pc' := 15) (L' := [some (.inr (.inr 2)), some (.inl p1), some (.inl p2)]) (S' := []) (fun _ _ => rfl) ?_
      cases h
      exact ev_ret 1 (fun _ _ => rfl)
    · refine ev_iff hc 3 (pc' := 16) (L' := [some (.inr (.inr 2)), some (.inl p1), some (.inl p2)]) (S' := []) (σ' := (SH L0, D)) (fun _ _ => rfl) ?_
      obtain ⟨x5, hx, h⟩ := bnd h
      refine ev_call (e_X11_isBlock L0 d (by omega) hx) 3 (pc' := 21) (L' := [some (.inr (.inr 2)), some (.inl p1), some (.inl p2)]) (S' := []) (fun _ _ => rfl) ?_
      rcases ite_or h with ⟨hc, h⟩ | ⟨hc, h⟩
      · refine ev_ift hc 1 (pc' := 24) (L' := [some (.inr (.inr 2)), some (.inl p1), some (.inl p2)]) (S' := []) (σ' := (SH L0, D)) (fun _ _ => rfl) ?_
        obtain ⟨⟨x6, D7⟩, hx, h⟩ := bnd h
        refine ev_call (e_X11_refuse L0 d (by omega) hx) 3 (pc' := 29) (L' := [some (.inr (.inr 2)), some (.inl p1), some (.inl p2)]) (S' := []) (fun _ _ => rfl) ?_
        cases h
        exact ev_ret 1 (fun _ _ => rfl)
      · refine ev_iff hc 1 (pc' := 30) (L' := [some (.inr (.inr 2)), some (.inl p1), some (.inl p2)]) (S' := []) (σ' := (SH L0, D)) (fun _ _ => rfl) ?_
        rcases ite_or h with ⟨hc0, h⟩ | ⟨hc0, h⟩
        · refine ev_tsw 2 (tgt := 80) (L' := [some (.inr (.inr 2)), some (.inl p1), some (.inl p2)]) (S' := []) (σ' := (SH L0, D)) (fun _ _ => rfl) (fun g => by simp [tsw, hc0]) ?_
          obtain ⟨x8, hx, h⟩ := bnd h
          refine ev_bind hx 6 (pc' := 90) (L' := fun x8 => [some (.inr (.inr 2)), some (.inl p1), some (.inl p2)]) (S' := fun x8 => [.inl x8, .inr (.inr 2)]) (σ' := fun x8 => (SH L0, D)) (fun _ _ => rfl) ?_
          obtain ⟨⟨x9, D10⟩, hx, h⟩ := bnd h
          refine ev_call (e_X11_answer L0 d (by omega) hx) 1 (pc' := 93) (L' := [some (.inr (.inr 2)), some (.inl p1), some (.inl p2)]) (S' := []) (fun _ _ => rfl) ?_
          cases h
          exact ev_ret 1 (fun _ _ => rfl)
        rcases ite_or h with ⟨hc1, h⟩ | ⟨hc1, h⟩
        · refine ev_tsw 2 (tgt := 94) (L' := [some (.inr (.inr 2)), some (.inl p1), some (.inl p2)]) (S' := []) (σ' := (SH L0, D)) (fun _ _ => rfl) (fun g => by simp [tsw, hc0, hc1]) ?_
          obtain ⟨x11, hx, h⟩ := bnd h
          refine ev_bind hx 6 (pc' := 104) (L' := fun x11 => [some (.inr (.inr 2)), some (.inl p1), some (.inl p2)]) (S' := fun x11 => [.inl x11, .inr (.inr 2)]) (σ' := fun x11 => (SH L0, D)) (fun _ _ => rfl) ?_
          obtain ⟨⟨x12, D13⟩, hx, h⟩ := bnd h
          refine ev_call (e_X11_answer L0 d (by omega) hx) 1 (pc' := 107) (L' := [some (.inr (.inr 2)), some (.inl p1), some (.inl p2)]) (S' := []) (fun _ _ => rfl) ?_
          cases h
          exact ev_ret 1 (fun _ _ => rfl)
        rcases ite_or h with ⟨hc2, h⟩ | ⟨hc2, h⟩
        · refine ev_tsw 2 (tgt := 108) (L' := [some (.inr (.inr 2)), some (.inl p1), some (.inl p2)]) (S' := []) (σ' := (SH L0, D)) (fun _ _ => rfl) (fun g => by simp [tsw, hc0, hc1, hc2]) ?_
          obtain ⟨x14, hx, h⟩ := bnd h
          refine ev_bind hx 6 (pc' := 118) (L' := fun x14 => [some (.inr (.inr 2)), some (.inl p1), some (.inl p2)]) (S' := fun x14 => [.inl x14, .inr (.inr 2)]) (σ' := fun x14 => (SH L0, D)) (fun _ _ => rfl) ?_
          obtain ⟨⟨x15, D16⟩, hx, h⟩ := bnd h
          refine ev_call (e_X11_answer L0 d (by omega) hx) 1 (pc' := 121) (L' := [some (.inr (.inr 2)), some (.inl p1), some (.inl p2)]) (S' := []) (fun _ _ => rfl) ?_
          cases h
          exact ev_ret 1 (fun _ _ => rfl)
        rcases ite_or h with ⟨hc3, h⟩ | ⟨hc3, h⟩
        · refine ev_tsw 2 (tgt := 122) (L' := [some (.inr (.inr 2)), some (.inl p1), some (.inl p2)]) (S' := []) (σ' := (SH L0, D)) (fun _ _ => rfl) (fun g => by simp [tsw, hc0, hc1, hc2, hc3]) ?_
          obtain ⟨x17, hx, h⟩ := bnd h
          refine ev_bind hx 6 (pc' := 132) (L' := fun x17 => [some (.inr (.inr 2)), some (.inl p1), some (.inl p2)]) (S' := fun x17 => [.inl x17, .inr (.inr 2)]) (σ' := fun x17 => (SH L0, D)) (fun _ _ => rfl) ?_
          obtain ⟨⟨x18, D19⟩, hx, h⟩ := bnd h
          refine ev_call (e_X11_answer L0 d (by omega) hx) 1 (pc' := 135) (L' := [some (.inr (.inr 2)), some (.inl p1), some (.inl p2)]) (S' := []) (fun _ _ => rfl) ?_
          cases h
          exact ev_ret 1 (fun _ _ => rfl)
        rcases ite_or h with ⟨hc4, h⟩ | ⟨hc4, h⟩
        · refine ev_tsw 2 (tgt := 136) (L' := [some (.inr (.inr 2)), some (.inl p1), some (.inl p2)]) (S' := []) (σ' := (SH L0, D)) (fun _ _ => rfl) (fun g => by simp [tsw, hc0, hc1, hc2, hc3, hc4]) ?_
          obtain ⟨x20, hx, h⟩ := bnd h
          refine ev_bind hx 6 (pc' := 146) (L' := fun x20 => [some (.inr (.inr 2)), some (.inl p1), some (.inl p2)]) (S' := fun x20 => [.inl x20, .inr (.inr 2)]) (σ' := fun x20 => (SH L0, D)) (fun _ _ => rfl) ?_
          obtain ⟨⟨x21, D22⟩, hx, h⟩ := bnd h
          refine ev_call (e_X11_answer L0 d (by omega) hx) 1 (pc' := 149) (L' := [some (.inr (.inr 2)), some (.inl p1), some (.inl p2)]) (S' := []) (fun _ _ => rfl) ?_
          cases h
          exact ev_ret 1 (fun _ _ => rfl)
        rcases ite_or h with ⟨hc5, h⟩ | ⟨hc5, h⟩
        · refine ev_tsw 2 (tgt := 150) (L' := [some (.inr (.inr 2)), some (.inl p1), some (.inl p2)]) (S' := []) (σ' := (SH L0, D)) (fun _ _ => rfl) (fun g => by simp [tsw, hc0, hc1, hc2, hc3, hc4, hc5]) ?_
          obtain ⟨x23, hx, h⟩ := bnd h
          refine ev_bind hx 6 (pc' := 160) (L' := fun x23 => [some (.inr (.inr 2)), some (.inl p1), some (.inl p2)]) (S' := fun x23 => [.inl x23, .inr (.inr 2)]) (σ' := fun x23 => (SH L0, D)) (fun _ _ => rfl) ?_
          obtain ⟨⟨x24, D25⟩, hx, h⟩ := bnd h
          refine ev_call (e_X11_answer L0 d (by omega) hx) 1 (pc' := 163) (L' := [some (.inr (.inr 2)), some (.inl p1), some (.inl p2)]) (S' := []) (fun _ _ => rfl) ?_
          cases h
          exact ev_ret 1 (fun _ _ => rfl)
        rcases ite_or h with ⟨hc6, h⟩ | ⟨hc6, h⟩
        · refine ev_tsw 2 (tgt := 164) (L' := [some (.inr (.inr 2)), some (.inl p1), some (.inl p2)]) (S' := []) (σ' := (SH L0, D)) (fun _ _ => rfl) (fun g => by simp [tsw, hc0, hc1, hc2, hc3, hc4, hc5, hc6]) ?_
          obtain ⟨x26, hx, h⟩ := bnd h
          refine ev_bind hx 6 (pc' := 174) (L' := fun x26 => [some (.inr (.inr 2)), some (.inl p1), some (.inl p2)]) (S' := fun x26 => [.inl x26, .inr (.inr 2)]) (σ' := fun x26 => (SH L0, D)) (fun _ _ => rfl) ?_
          obtain ⟨t27, hv, h⟩ := bnd h
          have hJ : EvF mtab d k_X11_block 182 [some (.inr (.inr 2)), some (.inl p1), some (.inl p2)] [.inl t27, .inr (.inr 2)] (SH L0, D) (some (.inl t0.1), (SH L0, t0.2)) := by
            obtain ⟨⟨x28, D29⟩, hx, h⟩ := bnd h
            refine ev_call (e_X11_answer L0 d (by omega) hx) 1 (pc' := 185) (L' := [some (.inr (.inr 2)), some (.inl p1), some (.inl p2)]) (S' := []) (fun _ _ => rfl) ?_
            cases h
            exact ev_ret 1 (fun _ _ => rfl)
          clear h
          rcases ite_or hv with ⟨hc, hv⟩ | ⟨hc, hv⟩
          · refine ev_ift hc 1 (pc' := 181) (L' := [some (.inr (.inr 2)), some (.inl p1), some (.inl p2)]) (S' := [.inr (.inr 2)]) (σ' := (SH L0, D)) (fun _ _ => rfl) ?_
            have he0 := Option.some.inj hv
            subst he0
            exact ev_go 1 (pc' := 182) (L' := [some (.inr (.inr 2)), some (.inl p1), some (.inl p2)]) (S' := [.inl 0, .inr (.inr 2)]) (σ' := (SH L0, D)) (fun _ _ => rfl) hJ
          · refine ev_iff hc 1 (pc' := 177) (L' := [some (.inr (.inr 2)), some (.inl p1), some (.inl p2)]) (S' := [.inr (.inr 2)]) (σ' := (SH L0, D)) (fun _ _ => rfl) ?_
            have he0 := Option.some.inj hv
            subst he0
            exact ev_go 2 (pc' := 182) (L' := [some (.inr (.inr 2)), some (.inl p1), some (.inl p2)]) (S' := [.inl 1, .inr (.inr 2)]) (σ' := (SH L0, D)) (fun _ _ => rfl) hJ
        rcases ite_or h with ⟨hc7, h⟩ | ⟨hc7, h⟩
        · refine ev_tsw 2 (tgt := 186) (L' := [some (.inr (.inr 2)), some (.inl p1), some (.inl p2)]) (S' := []) (σ' := (SH L0, D)) (fun _ _ => rfl) (fun g => by simp [tsw, hc0, hc1, hc2, hc3, hc4, hc5, hc6, hc7]) ?_
          obtain ⟨x30, hx, h⟩ := bnd h
          refine ev_call (e_X7_callsOf L0 d (by omega) hx) 5 (pc' := 195) (L' := [some (.inr (.inr 2)), some (.inl p1), some (.inl p2)]) (S' := [.inr (.inr 2)]) (fun _ _ => rfl) ?_
          obtain ⟨⟨x31, D32⟩, hx, h⟩ := bnd h
          refine ev_call (e_X11_answer L0 d (by omega) hx) 1 (pc' := 198) (L' := [some (.inr (.inr 2)), some (.inl p1), some (.inl p2)]) (S' := []) (fun _ _ => rfl) ?_
          cases h
          exact ev_ret 1 (fun _ _ => rfl)
        rcases ite_or h with ⟨hc8, h⟩ | ⟨hc8, h⟩
        · refine ev_tsw 2 (tgt := 199) (L' := [some (.inr (.inr 2)), some (.inl p1), some (.inl p2)]) (S' := []) (σ' := (SH L0, D)) (fun _ _ => rfl) (fun g => by simp [tsw, hc0, hc1, hc2, hc3, hc4, hc5, hc6, hc7, hc8]) ?_
          obtain ⟨x33, hx, h⟩ := bnd h
          refine ev_bind hx 8 (pc' := 211) (L' := fun x33 => [some (.inr (.inr 2)), some (.inl p1), some (.inl p2)]) (S' := fun x33 => [.inl x33, .inr (.inr 2)]) (σ' := fun x33 => (SH L0, D)) (fun _ _ => rfl) ?_
          obtain ⟨⟨x34, D35⟩, hx, h⟩ := bnd h
          refine ev_call (e_X11_answer L0 d (by omega) hx) 1 (pc' := 214) (L' := [some (.inr (.inr 2)), some (.inl p1), some (.inl p2)]) (S' := []) (fun _ _ => rfl) ?_
          cases h
          exact ev_ret 1 (fun _ _ => rfl)
        refine ev_tsw 2 (tgt := 215) (L' := [some (.inr (.inr 2)), some (.inl p1), some (.inl p2)]) (S' := []) (σ' := (SH L0, D)) (fun _ _ => rfl) (fun g => by simp [tsw, hc0, hc1, hc2, hc3, hc4, hc5, hc6, hc7, hc8]) ?_
        obtain ⟨x36, hx, h⟩ := bnd h
        refine ev_bind hx 10 (pc' := 229) (L' := fun x36 => [some (.inr (.inr 2)), some (.inl p1), some (.inl p2)]) (S' := fun x36 => [.inl x36, .inr (.inr 2)]) (σ' := fun x36 => (SH L0, D)) (fun _ _ => rfl) ?_
        obtain ⟨⟨x37, D38⟩, hx, h⟩ := bnd h
        refine ev_call (e_X11_answer L0 d (by omega) hx) 1 (pc' := 232) (L' := [some (.inr (.inr 2)), some (.inl p1), some (.inl p2)]) (S' := []) (fun _ _ => rfl) ?_
        cases h
        exact ev_ret 1 (fun _ _ => rfl)
set_option maxRecDepth 100000 in
set_option maxHeartbeats 4000000 in
theorem e_X11_isArc (L0 d : Nat) (hd : 1 ≤ d) {p1 : Int} {D : DT} {t0 : Int} (h : m_X11_isArc p1 D = some t0) : Ret mtab d 156 [.inr (.inr 2), .inl p1] (SH L0, D) (some (.inl t0), (SH L0, D)) := by
  obtain ⟨d, rfl⟩ : ∃ e, d = e + 1 := ⟨d - 1, by omega⟩
  refine Ret.of (code := k_X11_isArc) (ml := 2) rfl ?_
  show EvF mtab d k_X11_isArc 0 [some (.inr (.inr 2)), some (.inl p1)] [] (SH L0, D) (some (.inl t0), (SH L0, D))
  unfold m_X11_isArc at h
  rcases ite_or h with ⟨hc, h⟩ | ⟨hc, h⟩
  · refine ev_ift hc 2 (pc' := 19) (L' := [some (.inr (.inr 2)), some (.inl p1)]) (S' := []) (σ' := (SH L0, D)) (fun _ _ => rfl) ?_
    cases h
    exact ev_ret 2 (fun _ _ => rfl)
  · refine ev_iff hc 2 (pc' := 4) (L' := [some (.inr (.inr 2)), some (.inl p1)]) (S' := []) (σ' := (SH L0, D)) (fun _ _ => rfl) ?_
    rcases ite_or h with ⟨hc, h⟩ | ⟨hc, h⟩
    · refine ev_ift hc 5 (pc' := 15) (L' := [some (.inr (.inr 2)), some (.inl p1)]) (S' := []) (σ' := (SH L0, D)) (fun _ _ => rfl) ?_
      cases h
      exact ev_ret 3 (fun _ _ => rfl)
    · refine ev_iff hc 5 (pc' := 19) (L' := [some (.inr (.inr 2)), some (.inl p1)]) (S' := []) (σ' := (SH L0, D)) (fun _ _ => rfl) ?_
      cases h
      exact ev_ret 2 (fun _ _ => rfl)
set_option maxRecDepth 100000 in
set_option maxHeartbeats 4000000 in
theorem e_X11_arc (L0 d : Nat) (hd : 2 ≤ d) {p1 p2 : Int} {D : DT} {t0 : (Int × DT)} (h : m_X11_arc p1 p2 D = some t0) : Ret mtab d 134 [.inr (.inr 2), .inl p1, .inl p2] (SH L0, D) (some (.inl t0.1), (SH L0, t0.2)) := by
  obtain ⟨d, rfl⟩ : ∃ e, d = e + 1 := ⟨d - 1, by omega⟩
  refine Ret.of (code := k_X11_arc) (ml := 3) rfl ?_
  show EvF mtab d k_X11_arc 0 [some (.inr (.inr 2)), some (.inl p1), some (.inl p2)] [] (SH L0, D) (some (.inl t0.1), (SH L0, t0.2))
  unfold m_X11_arc at h
  rcases ite_or h with ⟨hc, h⟩ | ⟨hc, h⟩
  · refine ev_ift hc 2 (pc' := 9) (L' := [some (.inr (.inr 2)), some (.inl p1), some (.inl p2)]) (S' := []) (σ' := (SH L0, D)) (fun _ _ => rfl) ?_
    obtain ⟨⟨x1, D2⟩, hx, h⟩ := bnd h
    refine ev_call (e_X11_refuse L0 d (by omega) hx) 3 (pc' := 14) (L' := [some (.inr (.inr 2)), some (.inl p1), some (.inl p2)]) (S' := []) (fun _ _ => rfl) ?_
    cases h
    exact ev_ret 1 (fun _ _ => rfl)
  · refine ev_iff hc 2 (pc' := 4) (L' := [some (.inr (.inr 2)), some (.inl p1), some (.inl p2)]) (S' := []) (σ' := (SH L0, D)) (fun _ _ => rfl) ?_
    rcases ite_or h with ⟨hc, h⟩ | ⟨hc, h⟩
    · refine ev_ift hc 3 (pc' := 9) (L' := [some (.inr (.inr 2)), some (.inl p1), some (.inl p2)]) (S' := []) (σ' := (SH L0, D)) (fun _ _ => rfl) ?_
      obtain ⟨⟨x3, D4⟩, hx, h⟩ := bnd h
      refine ev_call (e_X11_refuse L0 d (by omega) hx) 3 (pc' := 14) (L' := [some (.inr (.inr 2)), some (.inl p1), some (.inl p2)]) (S' := []) (fun _ _ => rfl) ?_
      cases h
      exact ev_ret 1 (fun _ _ => rfl)
    · refine ev_iff hc 3 (pc' := 15) (L' := [some (.inr (.inr 2)), some (.inl p1), some (.inl p2)]) (S' := []) (σ' := (SH L0, D)) (fun _ _ => rfl) ?_
      obtain ⟨x5, hx, h⟩ := bnd h
      refine ev_call (e_X11_isArc L0 d (by omega) hx) 3 (pc' := 20) (L' := [some (.inr (.inr 2)), some (.inl p1), some (.inl p2)]) (S' := []) (fun _ _ => rfl) ?_
      rcases ite_or h with ⟨hc, h⟩ | ⟨hc, h⟩
      · refine ev_ift hc 1 (pc' := 23) (L' := [some (.inr (.inr 2)), some (.inl p1), some (.inl p2)]) (S' := []) (σ' := (SH L0, D)) (fun _ _ => rfl) ?_
        obtain ⟨⟨x6, D7⟩, hx, h⟩ := bnd h
        refine ev_call (e_X11_refuse L0 d (by omega) hx) 3 (pc' := 28) (L' := [some (.inr (.inr 2)), some (.inl p1), some (.inl p2)]) (S' := []) (fun _ _ => rfl) ?_
        cases h
        exact ev_ret 1 (fun _ _ => rfl)
      · refine ev_iff hc 1 (pc' := 29) (L' := [some (.inr (.inr 2)), some (.inl p1), some (.inl p2)]) (S' := []) (σ' := (SH L0, D)) (fun _ _ => rfl) ?_
        rcases ite_or h with ⟨hc0, h⟩ | ⟨hc0, h⟩
        · refine ev_tsw 2 (tgt := 60) (L' := [some (.inr (.inr 2)), some (.inl p1), some (.inl p2)]) (S' := []) (σ' := (SH L0, D)) (fun _ _ => rfl) (fun g => by simp [tsw, hc0]) ?_
          obtain ⟨x8, hx, h⟩ := bnd h
          refine ev_bind hx 6 (pc' := 70) (L' := fun x8 => [some (.inr (.inr 2)), some (.inl p1), some (.inl p2)]) (S' := fun x8 => [.inl x8, .inr (.inr 2)]) (σ' := fun x8 => (SH L0, D)) (fun _ _ => rfl) ?_
          obtain ⟨⟨x9, D10⟩, hx, h⟩ := bnd h
          refine ev_call (e_X11_answer L0 d (by omega) hx) 1 (pc' := 73) (L' := [some (.inr (.inr 2)), some (.inl p1), some (.inl p2)]) (S' := []) (fun _ _ => rfl) ?_
          cases h
          exact ev_ret 1 (fun _ _ => rfl)
        rcases ite_or h with ⟨hc1, h⟩ | ⟨hc1, h⟩
        · refine ev_tsw 2 (tgt := 74) (L' := [some (.inr (.inr 2)), some (.inl p1), some (.inl p2)]) (S' := []) (σ' := (SH L0, D)) (fun _ _ => rfl) (fun g => by simp [tsw, hc0, hc1]) ?_
          obtain ⟨x11, hx, h⟩ := bnd h
          refine ev_bind hx 6 (pc' := 84) (L' := fun x11 => [some (.inr (.inr 2)), some (.inl p1), some (.inl p2)]) (S' := fun x11 => [.inl x11, .inr (.inr 2)]) (σ' := fun x11 => (SH L0, D)) (fun _ _ => rfl) ?_
          obtain ⟨⟨x12, D13⟩, hx, h⟩ := bnd h
          refine ev_call (e_X11_answer L0 d (by omega) hx) 1 (pc' := 87) (L' := [some (.inr (.inr 2)), some (.inl p1), some (.inl p2)]) (S' := []) (fun _ _ => rfl) ?_
          cases h
          exact ev_ret 1 (fun _ _ => rfl)
        rcases ite_or h with ⟨hc2, h⟩ | ⟨hc2, h⟩
        · refine ev_tsw 2 (tgt := 88) (L' := [some (.inr (.inr 2)), some (.inl p1), some (.inl p2)]) (S' := []) (σ' := (SH L0, D)) (fun _ _ => rfl) (fun g => by simp [tsw, hc0, hc1, hc2]) ?_
          obtain ⟨x14, hx, h⟩ := bnd h
          refine ev_bind hx 6 (pc' := 98) (L' := fun x14 => [some (.inr (.inr 2)), some (.inl p1), some (.inl p2)]) (S' := fun x14 => [.inl x14, .inr (.inr 2)]) (σ' := fun x14 => (SH L0, D)) (fun _ _ => rfl) ?_
          obtain ⟨⟨x15, D16⟩, hx, h⟩ := bnd h
          refine ev_call (e_X11_answer L0 d (by omega) hx) 1 (pc' := 101) (L' := [some (.inr (.inr 2)), some (.inl p1), some (.inl p2)]) (S' := []) (fun _ _ => rfl) ?_
          cases h
          exact ev_ret 1 (fun _ _ => rfl)
        rcases ite_or h with ⟨hc3, h⟩ | ⟨hc3, h⟩
        · refine ev_tsw 2 (tgt := 102) (L' := [some (.inr (.inr 2)), some (.inl p1), some (.inl p2)]) (S' := []) (σ' := (SH L0, D)) (fun _ _ => rfl) (fun g => by simp [tsw, hc0, hc1, hc2, hc3]) ?_
          obtain ⟨x17, hx, h⟩ := bnd h
          refine ev_bind hx 6 (pc' := 112) (L' := fun x17 => [some (.inr (.inr 2)), some (.inl p1), some (.inl p2)]) (S' := fun x17 => [.inl x17, .inr (.inr 2)]) (σ' := fun x17 => (SH L0, D)) (fun _ _ => rfl) ?_
          obtain ⟨⟨x18, D19⟩, hx, h⟩ := bnd h
          refine ev_call (e_X11_answer L0 d (by omega) hx) 1 (pc' := 115) (L' := [some (.inr (.inr 2)), some (.inl p1), some (.inl p2)]) (S' := []) (fun _ _ => rfl) ?_
          cases h
          exact ev_ret 1 (fun _ _ => rfl)
        refine ev_tsw 2 (tgt := 116) (L' := [some (.inr (.inr 2)), some (.inl p1), some (.inl p2)]) (S' := []) (σ' := (SH L0, D)) (fun _ _ => rfl) (fun g => by simp [tsw, hc0, hc1, hc2, hc3]) ?_
        obtain ⟨x20, hx, h⟩ := bnd h
        refine ev_bind hx 6 (pc' := 126) (L' := fun x20 => [some (.inr (.inr 2)), some (.inl p1), some (.inl p2)]) (S' := fun x20 => [.inl x20, .inr (.inr 2)]) (σ' := fun x20 => (SH L0, D)) (fun _ _ => rfl) ?_
        obtain ⟨t21, hv, h⟩ := bnd h
        have hJ : EvF mtab d k_X11_arc 134 [some (.inr (.inr 2)), some (.inl p1), some (.inl p2)] [.inl t21, .inr (.inr 2)] (SH L0, D) (some (.inl t0.1), (SH L0, t0.2)) := by
          obtain ⟨⟨x22, D23⟩, hx, h⟩ := bnd h
          refine ev_call (e_X11_answer L0 d (by omega) hx) 1 (pc' := 137) (L' := [some (.inr (.inr 2)), some (.inl p1), some (.inl p2)]) (S' := []) (fun _ _ => rfl) ?_
          cases h
          exact ev_ret 1 (fun _ _ => rfl)
        clear h
        rcases ite_or hv with ⟨hc, hv⟩ | ⟨hc, hv⟩
        · refine ev_ift hc 1 (pc' := 133) (L' := [some (.inr (.inr 2)), some (.inl p1), some (.inl p2)]) (S' := [.inr (.inr 2)]) (σ' := (SH L0, D)) (fun _ _ => rfl) ?_
          have he0 := Option.some.inj hv
          subst he0
          exact ev_go 1 (pc' := 134) (L' := [some (.inr (.inr 2)), some (.inl p1), some (.inl p2)]) (S' := [.inl 0, .inr (.inr 2)]) (σ' := (SH L0, D)) (fun _ _ => rfl) hJ
        · refine ev_iff hc 1 (pc' := 129) (L' := [some (.inr (.inr 2)), some (.inl p1), some (.inl p2)]) (S' := [.inr (.inr 2)]) (σ' := (SH L0, D)) (fun _ _ => rfl) ?_
          have he0 := Option.some.inj hv
          subst he0
          exact ev_go 2 (pc' := 134) (L' := [some (.inr (.inr 2)), some (.inl p1), some (.inl p2)]) (S' := [.inl 1, .inr (.inr 2)]) (σ' := (SH L0, D)) (fun _ _ => rfl) hJ
set_option maxRecDepth 100000 in
set_option maxHeartbeats 4000000 in
theorem e_X11_weight (L0 d : Nat) (hd : 3 ≤ d) {p1 p2 : Int} {D : DT} {t0 : (Int × DT)} (h : m_X11_weight p1 p2 D = some t0) : Ret mtab d 135 [.inr (.inr 2), .inl p1, .inl p2] (SH L0, D) (some (.inl t0.1), (SH L0, t0.2)) := by
  obtain ⟨d, rfl⟩ : ∃ e, d = e + 1 := ⟨d - 1, by omega⟩
  refine Ret.of (code := k_X11_weight) (ml := 3) rfl ?_
  show EvF mtab d k_X11_weight 0 [some (.inr (.inr 2)), some (.inl p1), some (.inl p2)] [] (SH L0, D) (some (.inl t0.1), (SH L0, t0.2))
  unfold m_X11_weight at h
  obtain ⟨x1, hx, h⟩ := bnd h
  refine ev_call (e_X11_isFunction L0 d (by omega) hx) 3 (pc' := 5) (L' := [some (.inr (.inr 2)), some (.inl p1), some (.inl p2)]) (S' := []) (fun _ _ => rfl) ?_
  rcases ite_or h with ⟨hc, h⟩ | ⟨hc, h⟩
  · refine ev_ift hc 1 (pc' := 16) (L' := [some (.inr (.inr 2)), some (.inl p1), some (.inl p2)]) (S' := []) (σ' := (SH L0, D)) (fun _ _ => rfl) ?_
    obtain ⟨⟨x2, D3⟩, hx, h⟩ := bnd h
    refine ev_call (e_X11_refuse L0 d (by omega) hx) 3 (pc' := 21) (L' := [some (.inr (.inr 2)), some (.inl p1), some (.inl p2)]) (S' := []) (fun _ _ => rfl) ?_
    cases h
    exact ev_ret 1 (fun _ _ => rfl)
  · refine ev_iff hc 1 (pc' := 8) (L' := [some (.inr (.inr 2)), some (.inl p1), some (.inl p2)]) (S' := []) (σ' := (SH L0, D)) (fun _ _ => rfl) ?_
    obtain ⟨x4, hx, h⟩ := bnd h
    refine ev_call (e_X11_isFunction L0 d (by omega) hx) 3 (pc' := 13) (L' := [some (.inr (.inr 2)), some (.inl p1), some (.inl p2)]) (S' := []) (fun _ _ => rfl) ?_
    rcases ite_or h with ⟨hc, h⟩ | ⟨hc, h⟩
    · refine ev_ift hc 1 (pc' := 16) (L' := [some (.inr (.inr 2)), some (.inl p1), some (.inl p2)]) (S' := []) (σ' := (SH L0, D)) (fun _ _ => rfl) ?_
      obtain ⟨⟨x5, D6⟩, hx, h⟩ := bnd h
      refine ev_call (e_X11_refuse L0 d (by omega) hx) 3 (pc' := 21) (L' := [some (.inr (.inr 2)), some (.inl p1), some (.inl p2)]) (S' := []) (fun _ _ => rfl) ?_
      cases h
      exact ev_ret 1 (fun _ _ => rfl)
    · refine ev_iff hc 1 (pc' := 22) (L' := [some (.inr (.inr 2)), some (.inl p1), some (.inl p2)]) (S' := []) (σ' := (SH L0, D)) (fun _ _ => rfl) ?_
      obtain ⟨x7, hx, h⟩ := bnd h
      refine ev_call (e_X1_pull L0 d (by omega) hx) 6 (pc' := 32) (L' := [some (.inr (.inr 2)), some (.inl p1), some (.inl p2)]) (S' := [.inr (.inr 2)]) (fun _ _ => rfl) ?_
      obtain ⟨⟨x8, D9⟩, hx, h⟩ := bnd h
      refine ev_call (e_X11_answer L0 d (by omega) hx) 1 (pc' := 35) (L' := [some (.inr (.inr 2)), some (.inl p1), some (.inl p2)]) (S' := []) (fun _ _ => rfl) ?_
      cases h
      exact ev_ret 1 (fun _ _ => rfl)
set_option maxRecDepth 100000 in
set_option maxHeartbeats 4000000 in
theorem e_X11_isOrder (L0 d : Nat) (hd : 1 ≤ d) {p1 : Int} {D : DT} {t0 : Int} (h : m_X11_isOrder p1 D = some t0) : Ret mtab d 153 [.inr (.inr 2), .inl p1] (SH L0, D) (some (.inl t0), (SH L0, D)) := by
  obtain ⟨d, rfl⟩ : ∃ e, d = e + 1 := ⟨d - 1, by omega⟩
  refine Ret.of (code := k_X11_isOrder) (ml := 2) rfl ?_
  show EvF mtab d k_X11_isOrder 0 [some (.inr (.inr 2)), some (.inl p1)] [] (SH L0, D) (some (.inl t0), (SH L0, D))
  unfold m_X11_isOrder at h
  rcases ite_or h with ⟨hc, h⟩ | ⟨hc, h⟩
  · refine ev_ift hc 2 (pc' := 13) (L' := [some (.inr (.inr 2)), some (.inl p1)]) (S' := []) (σ' := (SH L0, D)) (fun _ _ => rfl) ?_
    cases h
    exact ev_ret 2 (fun _ _ => rfl)
  · refine ev_iff hc 2 (pc' := 4) (L' := [some (.inr (.inr 2)), some (.inl p1)]) (S' := []) (σ' := (SH L0, D)) (fun _ _ => rfl) ?_
    rcases ite_or h with ⟨hc, h⟩ | ⟨hc, h⟩
    · refine ev_ift hc 3 (pc' := 9) (L' := [some (.inr (.inr 2)), some (.inl p1)]) (S' := []) (σ' := (SH L0, D)) (fun _ _ => rfl) ?_
      cases h
      exact ev_ret 3 (fun _ _ => rfl)
    · refine ev_iff hc 3 (pc' := 13) (L' := [some (.inr (.inr 2)), some (.inl p1)]) (S' := []) (σ' := (SH L0, D)) (fun _ _ => rfl) ?_
      cases h
      exact ev_ret 2 (fun _ _ => rfl)
set_option maxRecDepth 100000 in
set_option maxHeartbeats 4000000 in
theorem e_X11_order (L0 d : Nat) (hd : 2 ≤ d) {p1 p2 : Int} {D : DT} {t0 : (Int × DT)} (h : m_X11_order p1 p2 D = some t0) : Ret mtab d 136 [.inr (.inr 2), .inl p1, .inl p2] (SH L0, D) (some (.inl t0.1), (SH L0, t0.2)) := by
  obtain ⟨d, rfl⟩ : ∃ e, d = e + 1 := ⟨d - 1, by omega⟩
  refine Ret.of (code := k_X11_order) (ml := 3) rfl ?_
  show EvF mtab d k_X11_order 0 [some (.inr (.inr 2)), some (.inl p1), some (.inl p2)] [] (SH L0, D) (some (.inl t0.1), (SH L0, t0.2))
  unfold m_X11_order at h
  obtain ⟨x1, hx, h⟩ := bnd h
  refine ev_call (e_X11_isOrder L0 d (by omega) hx) 3 (pc' := 5) (L' := [some (.inr (.inr 2)), some (.inl p1), some (.inl p2)]) (S' := []) (fun _ _ => rfl) ?_
  rcases ite_or h with ⟨hc, h⟩ | ⟨hc, h⟩
  · refine ev_ift hc 1 (pc' := 12) (L' := [some (.inr (.inr 2)), some (.inl p1), some (.inl p2)]) (S' := []) (σ' := (SH L0, D)) (fun _ _ => rfl) ?_
    obtain ⟨⟨x2, D3⟩, hx, h⟩ := bnd h
    refine ev_call (e_X11_refuse L0 d (by omega) hx) 3 (pc' := 17) (L' := [some (.inr (.inr 2)), some (.inl p1), some (.inl p2)]) (S' := []) (fun _ _ => rfl) ?_
    cases h
    exact ev_ret 1 (fun _ _ => rfl)
  · refine ev_iff hc 1 (pc' := 8) (L' := [some (.inr (.inr 2)), some (.inl p1), some (.inl p2)]) (S' := []) (σ' := (SH L0, D)) (fun _ _ => rfl) ?_
    rcases ite_or h with ⟨hc, h⟩ | ⟨hc, h⟩
    · refine ev_ift hc 2 (pc' := 12) (L' := [some (.inr (.inr 2)), some (.inl p1), some (.inl p2)]) (S' := []) (σ' := (SH L0, D)) (fun _ _ => rfl) ?_
      obtain ⟨⟨x4, D5⟩, hx, h⟩ := bnd h
      refine ev_call (e_X11_refuse L0 d (by omega) hx) 3 (pc' := 17) (L' := [some (.inr (.inr 2)), some (.inl p1), some (.inl p2)]) (S' := []) (fun _ _ => rfl) ?_
      cases h
      exact ev_ret 1 (fun _ _ => rfl)
    · refine ev_iff hc 2 (pc' := 18) (L' := [some (.inr (.inr 2)), some (.inl p1), some (.inl p2)]) (S' := []) (σ' := (SH L0, D)) (fun _ _ => rfl) ?_
      rcases ite_or h with ⟨hc, h⟩ | ⟨hc, h⟩
      · refine ev_ift hc 5 (pc' := 35) (L' := [some (.inr (.inr 2)), some (.inl p1), some (.inl p2)]) (S' := []) (σ' := (SH L0, D)) (fun _ _ => rfl) ?_
        rcases ite_or h with ⟨hc, h⟩ | ⟨_, h⟩
        · have hx : aref [163, 168, 173, 178, 183] 5 p1 = some 162 := by rw [hc]; rfl
          refine ev_bind hx 5 (pc' := 42) (L' := fun q => [some (.inr (.inr 2)), some (.inl p1), some (.inl p2)]) (S' := fun q => [.inr (.inr q), .inr (.inr 2)]) (σ' := fun q => (SH L0, D)) (fun _ _ => rfl) ?_
          obtain ⟨x6, hx, h⟩ := bnd h
          refine ev_bind hx 3 (pc' := 47) (L' := fun x6 => [some (.inr (.inr 2)), some (.inl p1), some (.inl p2)]) (S' := fun x6 => [.inl x6, .inr (.inr 2)]) (σ' := fun x6 => (SH L0, D)) (fun _ _ => rfl) ?_
          obtain ⟨⟨x7, D8⟩, hx, h⟩ := bnd h
          refine ev_call (e_X11_answer L0 d (by omega) hx) 1 (pc' := 50) (L' := [some (.inr (.inr 2)), some (.inl p1), some (.inl p2)]) (S' := []) (fun _ _ => rfl) ?_
          cases h
          exact ev_ret 1 (fun _ _ => rfl)
        rcases ite_or h with ⟨hc, h⟩ | ⟨_, h⟩
        · have hx : aref [163, 168, 173, 178, 183] 5 p1 = some 167 := by rw [hc]; rfl
          refine ev_bind hx 5 (pc' := 42) (L' := fun q => [some (.inr (.inr 2)), some (.inl p1), some (.inl p2)]) (S' := fun q => [.inr (.inr q), .inr (.inr 2)]) (σ' := fun q => (SH L0, D)) (fun _ _ => rfl) ?_
          obtain ⟨x9, hx, h⟩ := bnd h
          refine ev_bind hx 3 (pc' := 47) (L' := fun x9 => [some (.inr (.inr 2)), some (.inl p1), some (.inl p2)]) (S' := fun x9 => [.inl x9, .inr (.inr 2)]) (σ' := fun x9 => (SH L0, D)) (fun _ _ => rfl) ?_
          obtain ⟨⟨x10, D11⟩, hx, h⟩ := bnd h
          refine ev_call (e_X11_answer L0 d (by omega) hx) 1 (pc' := 50) (L' := [some (.inr (.inr 2)), some (.inl p1), some (.inl p2)]) (S' := []) (fun _ _ => rfl) ?_
          cases h
          exact ev_ret 1 (fun _ _ => rfl)
        rcases ite_or h with ⟨hc, h⟩ | ⟨_, h⟩
        · have hx : aref [163, 168, 173, 178, 183] 5 p1 = some 172 := by rw [hc]; rfl
          refine ev_bind hx 5 (pc' := 42) (L' := fun q => [some (.inr (.inr 2)), some (.inl p1), some (.inl p2)]) (S' := fun q => [.inr (.inr q), .inr (.inr 2)]) (σ' := fun q => (SH L0, D)) (fun _ _ => rfl) ?_
          obtain ⟨x12, hx, h⟩ := bnd h
          refine ev_bind hx 3 (pc' := 47) (L' := fun x12 => [some (.inr (.inr 2)), some (.inl p1), some (.inl p2)]) (S' := fun x12 => [.inl x12, .inr (.inr 2)]) (σ' := fun x12 => (SH L0, D)) (fun _ _ => rfl) ?_
          obtain ⟨⟨x13, D14⟩, hx, h⟩ := bnd h
          refine ev_call (e_X11_answer L0 d (by omega) hx) 1 (pc' := 50) (L' := [some (.inr (.inr 2)), some (.inl p1), some (.inl p2)]) (S' := []) (fun _ _ => rfl) ?_
          cases h
          exact ev_ret 1 (fun _ _ => rfl)
        rcases ite_or h with ⟨hc, h⟩ | ⟨_, h⟩
        · have hx : aref [163, 168, 173, 178, 183] 5 p1 = some 177 := by rw [hc]; rfl
          refine ev_bind hx 5 (pc' := 42) (L' := fun q => [some (.inr (.inr 2)), some (.inl p1), some (.inl p2)]) (S' := fun q => [.inr (.inr q), .inr (.inr 2)]) (σ' := fun q => (SH L0, D)) (fun _ _ => rfl) ?_
          obtain ⟨x15, hx, h⟩ := bnd h
          refine ev_bind hx 3 (pc' := 47) (L' := fun x15 => [some (.inr (.inr 2)), some (.inl p1), some (.inl p2)]) (S' := fun x15 => [.inl x15, .inr (.inr 2)]) (σ' := fun x15 => (SH L0, D)) (fun _ _ => rfl) ?_
          obtain ⟨⟨x16, D17⟩, hx, h⟩ := bnd h
          refine ev_call (e_X11_answer L0 d (by omega) hx) 1 (pc' := 50) (L' := [some (.inr (.inr 2)), some (.inl p1), some (.inl p2)]) (S' := []) (fun _ _ => rfl) ?_
          cases h
          exact ev_ret 1 (fun _ _ => rfl)
        rcases ite_or h with ⟨hc, h⟩ | ⟨_, h⟩
        · have hx : aref [163, 168, 173, 178, 183] 5 p1 = some 182 := by rw [hc]; rfl
          refine ev_bind hx 5 (pc' := 42) (L' := fun q => [some (.inr (.inr 2)), some (.inl p1), some (.inl p2)]) (S' := fun q => [.inr (.inr q), .inr (.inr 2)]) (σ' := fun q => (SH L0, D)) (fun _ _ => rfl) ?_
          obtain ⟨x18, hx, h⟩ := bnd h
          refine ev_bind hx 3 (pc' := 47) (L' := fun x18 => [some (.inr (.inr 2)), some (.inl p1), some (.inl p2)]) (S' := fun x18 => [.inl x18, .inr (.inr 2)]) (σ' := fun x18 => (SH L0, D)) (fun _ _ => rfl) ?_
          obtain ⟨⟨x19, D20⟩, hx, h⟩ := bnd h
          refine ev_call (e_X11_answer L0 d (by omega) hx) 1 (pc' := 50) (L' := [some (.inr (.inr 2)), some (.inl p1), some (.inl p2)]) (S' := []) (fun _ _ => rfl) ?_
          cases h
          exact ev_ret 1 (fun _ _ => rfl)
        cases h
      · refine ev_iff hc 5 (pc' := 29) (L' := [some (.inr (.inr 2)), some (.inl p1), some (.inl p2)]) (S' := []) (σ' := (SH L0, D)) (fun _ _ => rfl) ?_
        obtain ⟨⟨x21, D22⟩, hx, h⟩ := bnd h
        refine ev_call (e_X11_refuse L0 d (by omega) hx) 3 (pc' := 34) (L' := [some (.inr (.inr 2)), some (.inl p1), some (.inl p2)]) (S' := []) (fun _ _ => rfl) ?_
        cases h
        exact ev_ret 1 (fun _ _ => rfl)
set_option maxRecDepth 100000 in
set_option maxHeartbeats 4000000 in
theorem e_X11_place (L0 d : Nat) (hd : 3 ≤ d) {p1 p2 p3 : Int} {D : DT} {t0 : (Int × DT)} (h : m_X11_place p1 p2 p3 D = some t0) : Ret mtab d 137 [.inr (.inr 2), .inl p1, .inl p2, .inl p3] (SH L0, D) (some (.inl t0.1), (SH L0, t0.2)) := by
  obtain ⟨d, rfl⟩ : ∃ e, d = e + 1 := ⟨d - 1, by omega⟩
  refine Ret.of (code := k_X11_place) (ml := 5) rfl ?_
  show EvF mtab d k_X11_place 0 [some (.inr (.inr 2)), some (.inl p1), some (.inl p2), some (.inl p3), none] [] (SH L0, D) (some (.inl t0.1), (SH L0, t0.2))
  unfold m_X11_place at h
  obtain ⟨x1, hx, h⟩ := bnd h
  refine ev_call (e_X11_isOrder L0 d (by omega) hx) 3 (pc' := 5) (L' := [some (.inr (.inr 2)), some (.inl p1), some (.inl p2), some (.inl p3), none]) (S' := []) (fun _ _ => rfl) ?_
  rcases ite_or h with ⟨hc, h⟩ | ⟨hc, h⟩
  · refine ev_ift hc 1 (pc' := 17) (L' := [some (.inr (.inr 2)), some (.inl p1), some (.inl p2), some (.inl p3), none]) (S' := []) (σ' := (SH L0, D)) (fun _ _ => rfl) ?_
    obtain ⟨⟨x2, D3⟩, hx, h⟩ := bnd h
    refine ev_call (e_X11_refuse L0 d (by omega) hx) 3 (pc' := 22) (L' := [some (.inr (.inr 2)), some (.inl p1), some (.inl p2), some (.inl p3), none]) (S' := []) (fun _ _ => rfl) ?_
    cases h
    exact ev_ret 1 (fun _ _ => rfl)
  · refine ev_iff hc 1 (pc' := 8) (L' := [some (.inr (.inr 2)), some (.inl p1), some (.inl p2), some (.inl p3), none]) (S' := []) (σ' := (SH L0, D)) (fun _ _ => rfl) ?_
    rcases ite_or h with ⟨hc, h⟩ | ⟨hc, h⟩
    · refine ev_ift hc 2 (pc' := 17) (L' := [some (.inr (.inr 2)), some (.inl p1), some (.inl p2), some (.inl p3), none]) (S' := []) (σ' := (SH L0, D)) (fun _ _ => rfl) ?_
      obtain ⟨⟨x4, D5⟩, hx, h⟩ := bnd h
      refine ev_call (e_X11_refuse L0 d (by omega) hx) 3 (pc' := 22) (L' := [some (.inr (.inr 2)), some (.inl p1), some (.inl p2), some (.inl p3), none]) (S' := []) (fun _ _ => rfl) ?_
      cases h
      exact ev_ret 1 (fun _ _ => rfl)
    · refine ev_iff hc 2 (pc' := 12) (L' := [some (.inr (.inr 2)), some (.inl p1), some (.inl p2), some (.inl p3), none]) (S' := []) (σ' := (SH L0, D)) (fun _ _ => rfl) ?_
      rcases ite_or h with ⟨hc, h⟩ | ⟨hc, h⟩
      · refine ev_ift hc 3 (pc' := 17) (L' := [some (.inr (.inr 2)), some (.inl p1), some (.inl p2), some (.inl p3), none]) (S' := []) (σ' := (SH L0, D)) (fun _ _ => rfl) ?_
        obtain ⟨⟨x6, D7⟩, hx, h⟩ := bnd h
        refine ev_call (e_X11_refuse L0 d (by omega) hx) 3 (pc' := 22) (L' := [some (.inr (.inr 2)), some (.inl p1), some (.inl p2), some (.inl p3), none]) (S' := []) (fun _ _ => rfl) ?_
        cases h
        exact ev_ret 1 (fun _ _ => rfl)
      · refine ev_iff hc 3 (pc' := 23) (L' := [some (.inr (.inr 2)), some (.inl p1), some (.inl p2), some (.inl p3), none]) (S' := []) (σ' := (SH L0, D)) (fun _ _ => rfl) ?_
        obtain ⟨x8, hx, h⟩ := bnd h
        refine ev_call (e_X11_isBlock L0 d (by omega) hx) 3 (pc' := 28) (L' := [some (.inr (.inr 2)), some (.inl p1), some (.inl p2), some (.inl p3), none]) (S' := []) (fun _ _ => rfl) ?_
        rcases ite_or h with ⟨hc, h⟩ | ⟨hc, h⟩
        · refine ev_ift hc 1 (pc' := 31) (L' := [some (.inr (.inr 2)), some (.inl p1), some (.inl p2), some (.inl p3), none]) (S' := []) (σ' := (SH L0, D)) (fun _ _ => rfl) ?_
          obtain ⟨⟨x9, D10⟩, hx, h⟩ := bnd h
          refine ev_call (e_X11_refuse L0 d (by omega) hx) 3 (pc' := 36) (L' := [some (.inr (.inr 2)), some (.inl p1), some (.inl p2), some (.inl p3), none]) (S' := []) (fun _ _ => rfl) ?_
          cases h
          exact ev_ret 1 (fun _ _ => rfl)
        · refine ev_iff hc 1 (pc' := 37) (L' := [some (.inr (.inr 2)), some (.inl p1), some (.inl p2), some (.inl p3), none]) (S' := []) (σ' := (SH L0, D)) (fun _ _ => rfl) ?_
          rcases ite_or h with ⟨hc, h⟩ | ⟨_, h⟩
          · have hx : aref [163, 168, 173, 178, 183] 5 p1 = some 162 := by rw [hc]; rfl
            refine ev_bind hx 4 (pc' := 43) (L' := fun q => [some (.inr (.inr 2)), some (.inl p1), some (.inl p2), some (.inl p3), none]) (S' := fun q => [.inr (.inr q)]) (σ' := fun q => (SH L0, D)) (fun _ _ => rfl) ?_
            rcases ite_or h with ⟨hc0, h⟩ | ⟨hc0, h⟩
            · refine ev_tsw 3 (tgt := 76) (L' := [some (.inr (.inr 2)), some (.inl p1), some (.inl p2), some (.inl p3), some (.inr (.inr 162))]) (S' := []) (σ' := (SH L0, D)) (fun _ _ => rfl) (fun g => by simp [tsw, hc0]) ?_
              obtain ⟨x11, hx, h⟩ := bnd h
              refine ev_bind hx 5 (pc' := 84) (L' := fun x11 => [some (.inr (.inr 2)), some (.inl p1), some (.inl p2), some (.inl p3), some (.inr (.inr 162))]) (S' := fun x11 => [.inl x11, .inr (.inr 2)]) (σ' := fun x11 => (SH L0, D)) (fun _ _ => rfl) ?_
              obtain ⟨⟨x12, D13⟩, hx, h⟩ := bnd h
              refine ev_call (e_X11_answer L0 d (by omega) hx) 1 (pc' := 87) (L' := [some (.inr (.inr 2)), some (.inl p1), some (.inl p2), some (.inl p3), some (.inr (.inr 162))]) (S' := []) (fun _ _ => rfl) ?_
              cases h
              exact ev_ret 1 (fun _ _ => rfl)
            rcases ite_or h with ⟨hc1, h⟩ | ⟨hc1, h⟩
            · refine ev_tsw 3 (tgt := 88) (L' := [some (.inr (.inr 2)), some (.inl p1), some (.inl p2), some (.inl p3), some (.inr (.inr 162))]) (S' := []) (σ' := (SH L0, D)) (fun _ _ => rfl) (fun g => by simp [tsw, hc0, hc1]) ?_
              obtain ⟨x14, hx, h⟩ := bnd h
              refine ev_bind hx 5 (pc' := 96) (L' := fun x14 => [some (.inr (.inr 2)), some (.inl p1), some (.inl p2), some (.inl p3), some (.inr (.inr 162))]) (S' := fun x14 => [.inl x14, .inr (.inr 2)]) (σ' := fun x14 => (SH L0, D)) (fun _ _ => rfl) ?_
              obtain ⟨⟨x15, D16⟩, hx, h⟩ := bnd h
              refine ev_call (e_X11_answer L0 d (by omega) hx) 1 (pc' := 99) (L' := [some (.inr (.inr 2)), some (.inl p1), some (.inl p2), some (.inl p3), some (.inr (.inr 162))]) (S' := []) (fun _ _ => rfl) ?_
              cases h
              exact ev_ret 1 (fun _ _ => rfl)
            rcases ite_or h with ⟨hc2, h⟩ | ⟨hc2, h⟩
            · refine ev_tsw 3 (tgt := 100) (L' := [some (.inr (.inr 2)), some (.inl p1), some (.inl p2), some (.inl p3), some (.inr (.inr 162))]) (S' := []) (σ' := (SH L0, D)) (fun _ _ => rfl) (fun g => by simp [tsw, hc0, hc1, hc2]) ?_
              obtain ⟨x17, hx, h⟩ := bnd h
              refine ev_bind hx 5 (pc' := 108) (L' := fun x17 => [some (.inr (.inr 2)), some (.inl p1), some (.inl p2), some (.inl p3), some (.inr (.inr 162))]) (S' := fun x17 => [.inl x17, .inr (.inr 2)]) (σ' := fun x17 => (SH L0, D)) (fun _ _ => rfl) ?_
              obtain ⟨⟨x18, D19⟩, hx, h⟩ := bnd h
              refine ev_call (e_X11_answer L0 d (by omega) hx) 1 (pc' := 111) (L' := [some (.inr (.inr 2)), some (.inl p1), some (.inl p2), some (.inl p3), some (.inr (.inr 162))]) (S' := []) (fun _ _ => rfl) ?_
              cases h
              exact ev_ret 1 (fun _ _ => rfl)
            rcases ite_or h with ⟨hc3, h⟩ | ⟨hc3, h⟩
            · refine ev_tsw 3 (tgt := 112) (L' := [some (.inr (.inr 2)), some (.inl p1), some (.inl p2), some (.inl p3), some (.inr (.inr 162))]) (S' := []) (σ' := (SH L0, D)) (fun _ _ => rfl) (fun g => by simp [tsw, hc0, hc1, hc2, hc3]) ?_
              obtain ⟨x20, hx, h⟩ := bnd h
              refine ev_call (e_X4_firstPage_162 L0 d (by omega) hx) 4 (pc' := 119) (L' := [some (.inr (.inr 2)), some (.inl p1), some (.inl p2), some (.inl p3), some (.inr (.inr 162))]) (S' := [.inr (.inr 2)]) (fun _ _ => rfl) ?_
              obtain ⟨⟨x21, D22⟩, hx, h⟩ := bnd h
              refine ev_call (e_X11_answer L0 d (by omega) hx) 1 (pc' := 122) (L' := [some (.inr (.inr 2)), some (.inl p1), some (.inl p2), some (.inl p3), some (.inr (.inr 162))]) (S' := []) (fun _ _ => rfl) ?_
              cases h
              exact ev_ret 1 (fun _ _ => rfl)
            refine ev_tsw 3 (tgt := 123) (L' := [some (.inr (.inr 2)), some (.inl p1), some (.inl p2), some (.inl p3), some (.inr (.inr 162))]) (S' := []) (σ' := (SH L0, D)) (fun _ _ => rfl) (fun g => by simp [tsw, hc0, hc1, hc2, hc3]) ?_
            obtain ⟨x23, hx, h⟩ := bnd h
            refine ev_call (e_X4_lastPage_162 L0 d (by omega) hx) 4 (pc' := 130) (L' := [some (.inr (.inr 2)), some (.inl p1), some (.inl p2), some (.inl p3), some (.inr (.inr 162))]) (S' := [.inr (.inr 2)]) (fun _ _ => rfl) ?_
            obtain ⟨⟨x24, D25⟩, hx, h⟩ := bnd h
            refine ev_call (e_X11_answer L0 d (by omega) hx) 1 (pc' := 133) (L' := [some (.inr (.inr 2)), some (.inl p1), some (.inl p2), some (.inl p3), some (.inr (.inr 162))]) (S' := []) (fun _ _ => rfl) ?_
            cases h
            exact ev_ret 1 (fun _ _ => rfl)
          rcases ite_or h with ⟨hc, h⟩ | ⟨_, h⟩
          · have hx : aref [163, 168, 173, 178, 183] 5 p1 = some 167 := by rw [hc]; rfl
            refine ev_bind hx 4 (pc' := 43) (L' := fun q => [some (.inr (.inr 2)), some (.inl p1), some (.inl p2), some (.inl p3), none]) (S' := fun q => [.inr (.inr q)]) (σ' := fun q => (SH L0, D)) (fun _ _ => rfl) ?_
            rcases ite_or h with ⟨hc0, h⟩ | ⟨hc0, h⟩
            · refine ev_tsw 3 (tgt := 76) (L' := [some (.inr (.inr 2)), some (.inl p1), some (.inl p2), some (.inl p3), some (.inr (.inr 167))]) (S' := []) (σ' := (SH L0, D)) (fun _ _ => rfl) (fun g => by simp [tsw, hc0]) ?_
              obtain ⟨x26, hx, h⟩ := bnd h
              refine ev_bind hx 5 (pc' := 84) (L' := fun x26 => [some (.inr (.inr 2)), some (.inl p1), some (.inl p2), some (.inl p3), some (.inr (.inr 167))]) (S' := fun x26 => [.inl x26, .inr (.inr 2)]) (σ' := fun x26 => (SH L0, D)) (fun _ _ => rfl) ?_
              obtain ⟨⟨x27, D28⟩, hx, h⟩ := bnd h
              refine ev_call (e_X11_answer L0 d (by omega) hx) 1 (pc' := 87) (L' := [some (.inr (.inr 2)), some (.inl p1), some (.inl p2), some (.inl p3), some (.inr (.inr 167))]) (S' := []) (fun _ _ => rfl) ?_
              cases h
              exact ev_ret 1 (fun _ _ => rfl)
            rcases ite_or h with ⟨hc1, h⟩ | ⟨hc1, h⟩
            · refine ev_tsw 3 (tgt := 88) (L' := [some (.inr (.inr 2)), some (.inl p1), some (.inl p2), some (.inl p3), some (.inr (.inr 167))]) (S' := []) (σ' := (SH L0, D)) (fun _ _ => rfl) (fun g => by simp [tsw, hc0, hc1]) ?_
              obtain ⟨x29, hx, h⟩ := bnd h
              refine ev_bind hx 5 (pc' := 96) (L' := fun x29 => [some (.inr (.inr 2)), some (.inl p1), some (.inl p2), some (.inl p3), some (.inr (.inr 167))]) (S' := fun x29 => [.inl x29, .inr (.inr 2)]) (σ' := fun x29 => (SH L0, D)) (fun _ _ => rfl) ?_
              obtain ⟨⟨x30, D31⟩, hx, h⟩ := bnd h
              refine ev_call (e_X11_answer L0 d (by omega) hx) 1 (pc' := 99) (L' := [some (.inr (.inr 2)), some (.inl p1), some (.inl p2), some (.inl p3), some (.inr (.inr 167))]) (S' := []) (fun _ _ => rfl) ?_
              cases h
              exact ev_ret 1 (fun _ _ => rfl)
            rcases ite_or h with ⟨hc2, h⟩ | ⟨hc2, h⟩
            · refine ev_tsw 3 (tgt := 100) (L' := [some (.inr (.inr 2)), some (.inl p1), some (.inl p2), some (.inl p3), some (.inr (.inr 167))]) (S' := []) (σ' := (SH L0, D)) (fun _ _ => rfl) (fun g => by simp [tsw, hc0, hc1, hc2]) ?_
              obtain ⟨x32, hx, h⟩ := bnd h
              refine ev_bind hx 5 (pc' := 108) (L' := fun x32 => [some (.inr (.inr 2)), some (.inl p1), some (.inl p2), some (.inl p3), some (.inr (.inr 167))]) (S' := fun x32 => [.inl x32, .inr (.inr 2)]) (σ' := fun x32 => (SH L0, D)) (fun _ _ => rfl) ?_
              obtain ⟨⟨x33, D34⟩, hx, h⟩ := bnd h
              refine ev_call (e_X11_answer L0 d (by omega) hx) 1 (pc' := 111) (L' := [some (.inr (.inr 2)), some (.inl p1), some (.inl p2), some (.inl p3), some (.inr (.inr 167))]) (S' := []) (fun _ _ => rfl) ?_
              cases h
              exact ev_ret 1 (fun _ _ => rfl)
            rcases ite_or h with ⟨hc3, h⟩ | ⟨hc3, h⟩
            · refine ev_tsw 3 (tgt := 112) (L' := [some (.inr (.inr 2)), some (.inl p1), some (.inl p2), some (.inl p3), some (.inr (.inr 167))]) (S' := []) (σ' := (SH L0, D)) (fun _ _ => rfl) (fun g => by simp [tsw, hc0, hc1, hc2, hc3]) ?_
              obtain ⟨x35, hx, h⟩ := bnd h
              refine ev_call (e_X4_firstPage_167 L0 d (by omega) hx) 4 (pc' := 119) (L' := [some (.inr (.inr 2)), some (.inl p1), some (.inl p2), some (.inl p3), some (.inr (.inr 167))]) (S' := [.inr (.inr 2)]) (fun _ _ => rfl) ?_
              obtain ⟨⟨x36, D37⟩, hx, h⟩ := bnd h
              refine ev_call (e_X11_answer L0 d (by omega) hx) 1 (pc' := 122) (L' := [some (.inr (.inr 2)), some (.inl p1), some (.inl p2), some (.inl p3), some (.inr (.inr 167))]) (S' := []) (fun _ _ => rfl) ?_
              cases h
              exact ev_ret 1 (fun _ _ => rfl)
            refine ev_tsw 3 (tgt := 123) (L' := [some (.inr (.inr 2)), some (.inl p1), some (.inl p2), some (.inl p3), some (.inr (.inr 167))]) (S' := []) (σ' := (SH L0, D)) (fun _ _ => rfl) (fun g => by simp [tsw, hc0, hc1, hc2, hc3]) ?_
            obtain ⟨x38, hx, h⟩ := bnd h
            refine ev_call (e_X4_lastPage_167 L0 d (by omega) hx) 4 (pc' := 130) (L' := [some (.inr (.inr 2)), some (.inl p1), some (.inl p2), some (.inl p3), some (.inr (.inr 167))]) (S' := [.inr (.inr 2)]) (fun _ _ => rfl) ?_
            obtain ⟨⟨x39, D40⟩, hx, h⟩ := bnd h
            refine ev_call (e_X11_answer L0 d (by omega) hx) 1 (pc' := 133) (L' := [some (.inr (.inr 2)), some (.inl p1), some (.inl p2), some (.inl p3), some (.inr (.inr 167))]) (S' := []) (fun _ _ => rfl) ?_
            cases h
            exact ev_ret 1 (fun _ _ => rfl)
          rcases ite_or h with ⟨hc, h⟩ | ⟨_, h⟩
          · have hx : aref [163, 168, 173, 178, 183] 5 p1 = some 172 := by rw [hc]; rfl
            refine ev_bind hx 4 (pc' := 43) (L' := fun q => [some (.inr (.inr 2)), some (.inl p1), some (.inl p2), some (.inl p3), none]) (S' := fun q => [.inr (.inr q)]) (σ' := fun q => (SH L0, D)) (fun _ _ => rfl) ?_
            rcases ite_or h with ⟨hc0, h⟩ | ⟨hc0, h⟩
            · refine ev_tsw 3 (tgt := 76) (L' := [some (.inr (.inr 2)), some (.inl p1), some (.inl p2), some (.inl p3), some (.inr (.inr 172))]) (S' := []) (σ' := (SH L0, D)) (fun _ _ => rfl) (fun g => by simp [tsw, hc0]) ?_
              obtain ⟨x41, hx, h⟩ := bnd h
              refine ev_bind hx 5 (pc' := 84) (L' := fun x41 => [some (.inr (.inr 2)), some (.inl p1), some (.inl p2), some (.inl p3), some (.inr (.inr 172))]) (S' := fun x41 => [.inl x41, .inr (.inr 2)]) (σ' := fun x41 => (SH L0, D)) (fun _ _ => rfl) ?_
              obtain ⟨⟨x42, D43⟩, hx, h⟩ := bnd h
              refine ev_call (e_X11_answer L0 d (by omega) hx) 1 (pc' := 87) (L' := [some (.inr (.inr 2)), some (.inl p1), some (.inl p2), some (.inl p3), some (.inr (.inr 172))]) (S' := []) (fun _ _ => rfl) ?_
              cases h
              exact ev_ret 1 (fun _ _ => rfl)
            rcases ite_or h with ⟨hc1, h⟩ | ⟨hc1, h⟩
            · refine ev_tsw 3 (tgt := 88) (L' := [some (.inr (.inr 2)), some (.inl p1), some (.inl p2), some (.inl p3), some (.inr (.inr 172))]) (S' := []) (σ' := (SH L0, D)) (fun _ _ => rfl) (fun g => by simp [tsw, hc0, hc1]) ?_
              obtain ⟨x44, hx, h⟩ := bnd h
              refine ev_bind hx 5 (pc' := 96) (L' := fun x44 => [some (.inr (.inr 2)), some (.inl p1), some (.inl p2), some (.inl p3), some (.inr (.inr 172))]) (S' := fun x44 => [.inl x44, .inr (.inr 2)]) (σ' := fun x44 => (SH L0, D)) (fun _ _ => rfl) ?_
              obtain ⟨⟨x45, D46⟩, hx, h⟩ := bnd h
              refine ev_call (e_X11_answer L0 d (by omega) hx) 1 (pc' := 99) (L' := [some (.inr (.inr 2)), some (.inl p1), some (.inl p2), some (.inl p3), some (.inr (.inr 172))]) (S' := []) (fun _ _ => rfl) ?_
              cases h
              exact ev_ret 1 (fun _ _ => rfl)
            rcases ite_or h with ⟨hc2, h⟩ | ⟨hc2, h⟩
            · refine ev_tsw 3 (tgt := 100) (L' := [some (.inr (.inr 2)), some (.inl p1), some (.inl p2), some (.inl p3), some (.inr (.inr 172))]) (S' := []) (σ' := (SH L0, D)) (fun _ _ => rfl) (fun g => by simp [tsw, hc0, hc1, hc2]) ?_
              obtain ⟨x47, hx, h⟩ := bnd h
              refine ev_bind hx 5 (pc' := 108) (L' := fun x47 => [some (.inr (.inr 2)), some (.inl p1), some (.inl p2), some (.inl p3), some (.inr (.inr 172))]) (S' := fun x47 => [.inl x47, .inr (.inr 2)]) (σ' := fun x47 => (SH L0, D)) (fun _ _ => rfl) ?_
              obtain ⟨⟨x48, D49⟩, hx, h⟩ := bnd h
              refine ev_call (e_X11_answer L0 d (by omega) hx) 1 (pc' := 111) (L' := [some (.inr (.inr 2)), some (.inl p1), some (.inl p2), some (.inl p3), some (.inr (.inr 172))]) (S' := []) (fun _ _ => rfl) ?_
              cases h
              exact ev_ret 1 (fun _ _ => rfl)
            rcases ite_or h with ⟨hc3, h⟩ | ⟨hc3, h⟩
            · refine ev_tsw 3 (tgt := 112) (L' := [some (.inr (.inr 2)), some (.inl p1), some (.inl p2), some (.inl p3), some (.inr (.inr 172))]) (S' := []) (σ' := (SH L0, D)) (fun _ _ => rfl) (fun g => by simp [tsw, hc0, hc1, hc2, hc3]) ?_
              obtain ⟨x50, hx, h⟩ := bnd h
              refine ev_call (e_X4_firstPage_172 L0 d (by omega) hx) 4 (pc' := 119) (L' := [some (.inr (.inr 2)), some (.inl p1), some (.inl p2), some (.inl p3), some (.inr (.inr 172))]) (S' := [.inr (.inr 2)]) (fun _ _ => rfl) ?_
              obtain ⟨⟨x51, D52⟩, hx, h⟩ := bnd h
              refine ev_call (e_X11_answer L0 d (by omega) hx) 1 (pc' := 122) (L' := [some (.inr (.inr 2)), some (.inl p1), some (.inl p2), some (.inl p3), some (.inr (.inr 172))]) (S' := []) (fun _ _ => rfl) ?_
              cases h
              exact ev_ret 1 (fun _ _ => rfl)
            refine ev_tsw 3 (tgt := 123) (L' := [some (.inr (.inr 2)), some (.inl p1), some (.inl p2), some (.inl p3), some (.inr (.inr 172))]) (S' := []) (σ' := (SH L0, D)) (fun _ _ => rfl) (fun g => by simp [tsw, hc0, hc1, hc2, hc3]) ?_
            obtain ⟨x53, hx, h⟩ := bnd h
            refine ev_call (e_X4_lastPage_172 L0 d (by omega) hx) 4 (pc' := 130) (L' := [some (.inr (.inr 2)), some (.inl p1), some (.inl p2), some (.inl p3), some (.inr (.inr 172))]) (S' := [.inr (.inr 2)]) (fun _ _ => rfl) ?_
            obtain ⟨⟨x54, D55⟩, hx, h⟩ := bnd h
            refine ev_call (e_X11_answer L0 d (by omega) hx) 1 (pc' := 133) (L' := [some (.inr (.inr 2)), some (.inl p1), some (.inl p2), some (.inl p3), some (.inr (.inr 172))]) (S' := []) (fun _ _ => rfl) ?_
            cases h
            exact ev_ret 1 (fun _ _ => rfl)
          rcases ite_or h with ⟨hc, h⟩ | ⟨_, h⟩
          · have hx : aref [163, 168, 173, 178, 183] 5 p1 = some 177 := by rw [hc]; rfl
            refine ev_bind hx 4 (pc' := 43) (L' := fun q => [some (.inr (.inr 2)), some (.inl p1), some (.inl p2), some (.inl p3), none]) (S' := fun q => [.inr (.inr q)]) (σ' := fun q => (SH L0, D)) (fun _ _ => rfl) ?_
            rcases ite_or h with ⟨hc0, h⟩ | ⟨hc0, h⟩
            · refine ev_tsw 3 (tgt := 76) (L' := [some (.inr (.inr 2)), some (.inl p1), some (.inl p2), some (.inl p3), some (.inr (.inr 177))]) (S' := []) (σ' := (SH L0, D)) (fun _ _ => rfl) (fun g => by simp [tsw, hc0]) ?_
              obtain ⟨x56, hx, h⟩ := bnd h
              refine ev_bind hx 5 (pc' := 84) (L' := fun x56 => [some (.inr (.inr 2)), some (.inl p1), some (.inl p2), some (.inl p3), some (.inr (.inr 177))]) (S' := fun x56 => [.inl x56, .inr (.inr 2)]) (σ' := fun x56 => (SH L0, D)) (fun _ _ => rfl) ?_
              obtain ⟨⟨x57, D58⟩, hx, h⟩ := bnd h
              refine ev_call (e_X11_answer L0 d (by omega) hx) 1 (pc' := 87) (L' := [some (.inr (.inr 2)), some (.inl p1), some (.inl p2), some (.inl p3), some (.inr (.inr 177))]) (S' := []) (fun _ _ => rfl) ?_
              cases h
              exact ev_ret 1 (fun _ _ => rfl)
            rcases ite_or h with ⟨hc1, h⟩ | ⟨hc1, h⟩
            · refine ev_tsw 3 (tgt := 88) (L' := [some (.inr (.inr 2)), some (.inl p1), some (.inl p2), some (.inl p3), some (.inr (.inr 177))]) (S' := []) (σ' := (SH L0, D)) (fun _ _ => rfl) (fun g => by simp [tsw, hc0, hc1]) ?_
              obtain ⟨x59, hx, h⟩ := bnd h
              refine ev_bind hx 5 (pc' := 96) (L' := fun x59 => [some (.inr (.inr 2)), some (.inl p1), some (.inl p2), some (.inl p3), some (.inr (.inr 177))]) (S' := fun x59 => [.inl x59, .inr (.inr 2)]) (σ' := fun x59 => (SH L0, D)) (fun _ _ => rfl) ?_
              obtain ⟨⟨x60, D61⟩, hx, h⟩ := bnd h
              refine ev_call (e_X11_answer L0 d (by omega) hx) 1 (pc' := 99) (L' := [some (.inr (.inr 2)), some (.inl p1), some (.inl p2), some (.inl p3), some (.inr (.inr 177))]) (S' := []) (fun _ _ => rfl) ?_
              cases h
              exact ev_ret 1 (fun _ _ => rfl)
            rcases ite_or h with ⟨hc2, h⟩ | ⟨hc2, h⟩
            · refine ev_tsw 3 (tgt := 100) (L' := [some (.inr (.inr 2)), some (.inl p1), some (.inl p2), some (.inl p3), some (.inr (.inr 177))]) (S' := []) (σ' := (SH L0, D)) (fun _ _ => rfl) (fun g => by simp [tsw, hc0, hc1, hc2]) ?_
              obtain ⟨x62, hx, h⟩ := bnd h
              refine ev_bind hx 5 (pc' := 108) (L' := fun x62 => [some (.inr (.inr 2)), some (.inl p1), some (.inl p2), some (.inl p3), some (.inr (.inr 177))]) (S' := fun x62 => [.inl x62, .inr (.inr 2)]) (σ' := fun x62 => (SH L0, D)) (fun _ _ => rfl) ?_
              obtain ⟨⟨x63, D64⟩, hx, h⟩ := bnd h
              refine ev_call (e_X11_answer L0 d (by omega) hx) 1 (pc' := 111) (L' := [some (.inr (.inr 2)), some (.inl p1), some (.inl p2), some (.inl p3), some (.inr (.inr 177))]) (S' := []) (fun _ _ => rfl) ?_
              cases h
              exact ev_ret 1 (fun _ _ => rfl)
            rcases ite_or h with ⟨hc3, h⟩ | ⟨hc3, h⟩
            · refine ev_tsw 3 (tgt := 112) (L' := [some (.inr (.inr 2)), some (.inl p1), some (.inl p2), some (.inl p3), some (.inr (.inr 177))]) (S' := []) (σ' := (SH L0, D)) (fun _ _ => rfl) (fun g => by simp [tsw, hc0, hc1, hc2, hc3]) ?_
              obtain ⟨x65, hx, h⟩ := bnd h
              refine ev_call (e_X4_firstPage_177 L0 d (by omega) hx) 4 (pc' := 119) (L' := [some (.inr (.inr 2)), some (.inl p1), some (.inl p2), some (.inl p3), some (.inr (.inr 177))]) (S' := [.inr (.inr 2)]) (fun _ _ => rfl) ?_
              obtain ⟨⟨x66, D67⟩, hx, h⟩ := bnd h
              refine ev_call (e_X11_answer L0 d (by omega) hx) 1 (pc' := 122) (L' := [some (.inr (.inr 2)), some (.inl p1), some (.inl p2), some (.inl p3), some (.inr (.inr 177))]) (S' := []) (fun _ _ => rfl) ?_
              cases h
              exact ev_ret 1 (fun _ _ => rfl)
            refine ev_tsw 3 (tgt := 123) (L' := [some (.inr (.inr 2)), some (.inl p1), some (.inl p2), some (.inl p3), some (.inr (.inr 177))]) (S' := []) (σ' := (SH L0, D)) (fun _ _ => rfl) (fun g => by simp [tsw, hc0, hc1, hc2, hc3]) ?_
            obtain ⟨x68, hx, h⟩ := bnd h
            refine ev_call (e_X4_lastPage_177 L0 d (by omega) hx) 4 (pc' := 130) (L' := [some (.inr (.inr 2)), some (.inl p1), some (.inl p2), some (.inl p3), some (.inr (.inr 177))]) (S' := [.inr (.inr 2)]) (fun _ _ => rfl) ?_
            obtain ⟨⟨x69, D70⟩, hx, h⟩ := bnd h
            refine ev_call (e_X11_answer L0 d (by omega) hx) 1 (pc' := 133) (L' := [some (.inr (.inr 2)), some (.inl p1), some (.inl p2), some (.inl p3), some (.inr (.inr 177))]) (S' := []) (fun _ _ => rfl) ?_
            cases h
            exact ev_ret 1 (fun _ _ => rfl)
          rcases ite_or h with ⟨hc, h⟩ | ⟨_, h⟩
          · have hx : aref [163, 168, 173, 178, 183] 5 p1 = some 182 := by rw [hc]; rfl
            refine ev_bind hx 4 (pc' := 43) (L' := fun q => [some (.inr (.inr 2)), some (.inl p1), some (.inl p2), some (.inl p3), none]) (S' := fun q => [.inr (.inr q)]) (σ' := fun q => (SH L0, D)) (fun _ _ => rfl) ?_
            rcases ite_or h with ⟨hc0, h⟩ | ⟨hc0, h⟩
            · refine ev_tsw 3 (tgt := 76) (L' := [some (.inr (.inr 2)), some (.inl p1), some (.inl p2), some (.inl p3), some (.inr (.inr 182))]) (S' := []) (σ' := (SH L0, D)) (fun _ _ => rfl) (fun g => by simp [tsw, hc0]) ?_
              obtain ⟨x71, hx, h⟩ := bnd h
              refine ev_bind hx 5 (pc' := 84) (L' := fun x71 => [some (.inr (.inr 2)), some (.inl p1), some (.inl p2), some (.inl p3), some (.inr (.inr 182))]) (S' := fun x71 => [.inl x71, .inr (.inr 2)]) (σ' := fun x71 => (SH L0, D)) (fun _ _ => rfl) ?_
              obtain ⟨⟨x72, D73⟩, hx, h⟩ := bnd h
              refine ev_call (e_X11_answer L0 d (by omega) hx) 1 (pc' := 87) (L' := [some (.inr (.inr 2)), some (.inl p1), some (.inl p2), some (.inl p3), some (.inr (.inr 182))]) (S' := []) (fun _ _ => rfl) ?_
              cases h
              exact ev_ret 1 (fun _ _ => rfl)
            rcases ite_or h with ⟨hc1, h⟩ | ⟨hc1, h⟩
            · refine ev_tsw 3 (tgt := 88) (L' := [some (.inr (.inr 2)), some (.inl p1), some (.inl p2), some (.inl p3), some (.inr (.inr 182))]) (S' := []) (σ' := (SH L0, D)) (fun _ _ => rfl) (fun g => by simp [tsw, hc0, hc1]) ?_
              obtain ⟨x74, hx, h⟩ := bnd h
              refine ev_bind hx 5 (pc' := 96) (L' := fun x74 => [some (.inr (.inr 2)), some (.inl p1), some (.inl p2), some (.inl p3), some (.inr (.inr 182))]) (S' := fun x74 => [.inl x74, .inr (.inr 2)]) (σ' := fun x74 => (SH L0, D)) (fun _ _ => rfl) ?_
              obtain ⟨⟨x75, D76⟩, hx, h⟩ := bnd h
              refine ev_call (e_X11_answer L0 d (by omega) hx) 1 (pc' := 99) (L' := [some (.inr (.inr 2)), some (.inl p1), some (.inl p2), some (.inl p3), some (.inr (.inr 182))]) (S' := []) (fun _ _ => rfl) ?_
              cases h
              exact ev_ret 1 (fun _ _ => rfl)
            rcases ite_or h with ⟨hc2, h⟩ | ⟨hc2, h⟩
            · refine ev_tsw 3 (tgt := 100) (L' := [some (.inr (.inr 2)), some (.inl p1), some (.inl p2), some (.inl p3), some (.inr (.inr 182))]) (S' := []) (σ' := (SH L0, D)) (fun _ _ => rfl) (fun g => by simp [tsw, hc0, hc1, hc2]) ?_
              obtain ⟨x77, hx, h⟩ := bnd h
              refine ev_bind hx 5 (pc' := 108) (L' := fun x77 => [some (.inr (.inr 2)), some (.inl p1), some (.inl p2), some (.inl p3), some (.inr (.inr 182))]) (S' := fun x77 => [.inl x77, .inr (.inr 2)]) (σ' := fun x77 => (SH L0, D)) (fun _ _ => rfl) ?_
              obtain ⟨⟨x78, D79⟩, hx, h⟩ := bnd h
              refine ev_call (e_X11_answer L0 d (by omega) hx) 1 (pc' := 111) (L' := [some (.inr (.inr 2)), some (.inl p1), some (.inl p2), some (.inl p3), some (.inr (.inr 182))]) (S' := []) (fun _ _ => rfl) ?_
              cases h
              exact ev_ret 1 (fun _ _ => rfl)
            rcases ite_or h with ⟨hc3, h⟩ | ⟨hc3, h⟩
            · refine ev_tsw 3 (tgt := 112) (L' := [some (.inr (.inr 2)), some (.inl p1), some (.inl p2), some (.inl p3), some (.inr (.inr 182))]) (S' := []) (σ' := (SH L0, D)) (fun _ _ => rfl) (fun g => by simp [tsw, hc0, hc1, hc2, hc3]) ?_
              obtain ⟨x80, hx, h⟩ := bnd h
              refine ev_call (e_X4_firstPage_182 L0 d (by omega) hx) 4 (pc' := 119) (L' := [some (.inr (.inr 2)), some (.inl p1), some (.inl p2), some (.inl p3), some (.inr (.inr 182))]) (S' := [.inr (.inr 2)]) (fun _ _ => rfl) ?_
              obtain ⟨⟨x81, D82⟩, hx, h⟩ := bnd h
              refine ev_call (e_X11_answer L0 d (by omega) hx) 1 (pc' := 122) (L' := [some (.inr (.inr 2)), some (.inl p1), some (.inl p2), some (.inl p3), some (.inr (.inr 182))]) (S' := []) (fun _ _ => rfl) ?_
              cases h
              exact ev_ret 1 (fun _ _ => rfl)
            refine ev_tsw 3 (tgt := 123) (L' := [some (.inr (.inr 2)), some (.inl p1), some (.inl p2), some (.inl p3), some (.inr (.inr 182))]) (S' := []) (σ' := (SH L0, D)) (fun _ _ => rfl) (fun g => by simp [tsw, hc0, hc1, hc2, hc3]) ?_
            obtain ⟨x83, hx, h⟩ := bnd h
            refine ev_call (e_X4_lastPage_182 L0 d (by omega) hx) 4 (pc' := 130) (L' := [some (.inr (.inr 2)), some (.inl p1), some (.inl p2), some (.inl p3), some (.inr (.inr 182))]) (S' := [.inr (.inr 2)]) (fun _ _ => rfl) ?_
            obtain ⟨⟨x84, D85⟩, hx, h⟩ := bnd h
            refine ev_call (e_X11_answer L0 d (by omega) hx) 1 (pc' := 133) (L' := [some (.inr (.inr 2)), some (.inl p1), some (.inl p2), some (.inl p3), some (.inr (.inr 182))]) (S' := []) (fun _ _ => rfl) ?_
            cases h
            exact ev_ret 1 (fun _ _ => rfl)
          cases h
